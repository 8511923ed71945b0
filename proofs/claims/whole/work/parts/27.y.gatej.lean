/-! ===== town: gates, both alike, the whole ===== -/
section
variable {b : Bool} {T : Int → Int} {n : Int} {N : Nat → List (List Int)} {ML : List (Int × Int × Int × Int)} {GL : List (Int × Int × Int)} {PL : List (Int × Int × Int × Int)} {C : List Int} {H : Int}
/-- the class, from behind the word gate on -/
theorem cg_head (hT : Tp T n) {d : Nat} (hd : 4 ≤ d) (hN : NOk N) (hG : GL.length < 12) {μ0 μ : Nat → Int → Int} {s : Int} {g : Bool} (hf : Dfr b μ0 μ) (h : CLv T n μ s g) (hc : Cl b μ (N, ML, GL, PL, C, H)) {r1 : Sum (Int × Int) (Int × Int × Bool)} (h1 : olR T n s g (N 0) r1) {r : SR}
  (he : ∀ e, r1 = .inl e → r = .inl e)
  (ho : ∀ a s2 g2, r1 = .inr (a, s2, g2) → ∃ r2, olR T n s2 g2 (N 0) r2 ∧ (∀ e, r2 = .inl e → r = .inl e) ∧ ∀ c s3 g3, r2 = .inr (c, s3, g3) → (a = c → r = .inl (3, s2)) ∧ (a ≠ c → ∀ μ0 μ, Dfr b μ0 μ → CLv T n μ s3 g3 → Cl b μ (N, ML, GL, PL, C, H) → μ (tw (!b) + 8) (GL.length : Int) = a → μ (tw (!b) + 9) (GL.length : Int) = c → ∀ v2, Ev (fun m => mRun (mCallN d) kX4_readGate m 79 [some (mP 1), some (mI (GL.length : Int)), some (mI v2), none] [] (SH, μ, RHO b)) b (fun _ μ' => CSS b T n μ0 μ' r))) :
  Ev (fun n => (mOptR (mCallN d 180 [mP 1, mI 0] (SH, μ, RHO b)) (fun x2 => (if (0 : Int) ≤ (GL.length : Int) ∧ (GL.length : Int) < (12 : Int) then (mOptR (mCallN d 180 [mP 1, mI 0] (SH, (m2 x2.2.2.1 (tw (!b) + 8) (GL.length : Int) x2.1), RHO b)) (fun x3 => (if (0 : Int) ≤ (GL.length : Int) ∧ (GL.length : Int) < (12 : Int) then (if (0 : Int) ≤ (GL.length : Int) ∧ (GL.length : Int) < (12 : Int) then (if (0 : Int) ≤ (GL.length : Int) ∧ (GL.length : Int) < (12 : Int) then mBr (((m2 x3.2.2.1 (tw (!b) + 9) (GL.length : Int) x3.1) (tw (!b) + 8) (GL.length : Int) : Int) = (m2 x3.2.2.1 (tw (!b) + 9) (GL.length : Int) x3.1) (tw (!b) + 9) (GL.length : Int)) ((mOptR (mCallN d 160 [mP 1, mI 3, mI ((m2 x2.2.2.1 (tw (!b) + 8) (GL.length : Int) x2.1) 1 7)] (SH, (m2 x3.2.2.1 (tw (!b) + 9) (GL.length : Int) x3.1), RHO b)) (fun x4 => mRun (mCallN d) kX4_readGate n 79 [some (mP 1), some (mI (GL.length : Int)), some (mI ((m2 x2.2.2.1 (tw (!b) + 8) (GL.length : Int) x2.1) 1 7)), none] [] (SH, x4.2.2.1, RHO b)))) (mRun (mCallN d) kX4_readGate n 79 [some (mP 1), some (mI (GL.length : Int)), some (mI ((m2 x2.2.2.1 (tw (!b) + 8) (GL.length : Int) x2.1) 1 7)), none] [] (SH, (m2 x3.2.2.1 (tw (!b) + 9) (GL.length : Int) x3.1), RHO b)) else none) else none) else none))) else none)))) b (fun _ μ' => CSS b T n μ0 μ' r) := by
  have hGi : (0 : Int) ≤ (GL.length : Int) ∧ (GL.length : Int) < 12 := by omega
  have t1 := tw_or (!b)
  have n0 := (hN 0 (by decide) (by decide)).1
  /- the dead end -/
  have dead : ∀ e (v2 v3 p : Int) (μ3 : Nat → Int → Int), Dfr b μ0 μ3 → CDd T n μ3 e → Cl b μ3 (N, ML, GL, PL, C, H) → r = .inl e → Ev (fun n => mBr (((m2 μ3 (tw (!b) + 9) (GL.length : Int) v3) (tw (!b) + 8) (GL.length : Int) : Int) = (m2 μ3 (tw (!b) + 9) (GL.length : Int) v3) (tw (!b) + 9) (GL.length : Int)) ((mOptR (mCallN d 160 [mP 1, mI 3, mI p] (SH, (m2 μ3 (tw (!b) + 9) (GL.length : Int) v3), RHO b)) (fun x4 => mRun (mCallN d) kX4_readGate n 79 [some (mP 1), some (mI (GL.length : Int)), some (mI v2), none] [] (SH, x4.2.2.1, RHO b)))) (mRun (mCallN d) kX4_readGate n 79 [some (mP 1), some (mI (GL.length : Int)), some (mI v2), none] [] (SH, (m2 μ3 (tw (!b) + 9) (GL.length : Int) v3), RHO b))) b (fun _ μ' => CSS b T n μ0 μ' r) := fun e v2 v3 p μ3 f3 h3 k3 q => by
    rw [q]
    have h3' : CDd T n (m2 μ3 (tw (!b) + 9) (GL.length : Int) v3) e := CDd_tw (b := b) h3 (by omega)
    have f3' : Dfr b μ0 (m2 μ3 (tw (!b) + 9) (GL.length : Int) v3) := dfr_m2 f3 (by omega)
    have k3' := Cl_gw k3 (a := 9) (by omega) v3
    refine ev_br (fun _ => ?_) (fun _ => cg79_dd hd hN hG f3' h3' k3' _)
    refine ev_callP (sX4_fail_dead 3 p b _ h3' d (by omega)) (fun v4 μ4 ⟨f4', h4'⟩ => ?_)
    have f4 : Fj rdJ (m2 μ3 (tw (!b) + 9) (GL.length : Int) v3) μ4 := f4'
    exact cg79_dd hd hN hG (dfr_tr f3' (dfr_fj f4)) h4' (Cl_sm (dsm_fj (b := b) f4) k3') _
  refine ev_callP (sX4_takeOldName hT (k := 0) (by decide) (by decide) b μ h hc.1 hN h1 d hd) (fun v2 μ2 ⟨f2', h2'⟩ => ev_if hGi ?_)
  have f2 : Fj rdJ μ μ2 := f2'
  have k2 := Cl_gw (Cl_sm (dsm_fj (b := b) f2) hc) (a := 8) (by omega) v2
  have g2 : Dfr b μ0 (m2 μ2 (tw (!b) + 8) (GL.length : Int) v2) := dfr_m2 (dfr_tr hf (dfr_fj f2)) (by omega)
  have a1 := (k2.1 0 (by decide) (by decide)).1
  rcases r1 with e | ⟨a, s2, gg2⟩
  · have h2 : CDd T n μ2 e := h2'
    have h2c : CDd T n (m2 μ2 (tw (!b) + 8) (GL.length : Int) v2) e := CDd_tw (b := b) h2 (by omega)
    refine ev_callP (sX4_takeOldName_dd (k := 0) (by decide) b _ h2c (by rw [a1]; omega) (by rw [a1]; omega) d hd) (fun v3 μ3 ⟨f3', h3'⟩ => ev_if hGi (ev_if hGi (ev_if hGi ?_)))
    have f3 : Fj rdJ (m2 μ2 (tw (!b) + 8) (GL.length : Int) v2) μ3 := f3'
    exact dead e _ v3 _ μ3 (dfr_tr g2 (dfr_fj f3)) h3' (Cl_sm (dsm_fj (b := b) f3) k2) (he e rfl)
  · obtain ⟨hva, h2⟩ := h2'
    have hva' : v2 = a := hva
    subst hva'
    have h2c : CLv T n (m2 μ2 (tw (!b) + 8) (GL.length : Int) v2) s2 gg2 := CLv_tw (b := b) h2 (by omega)
    obtain ⟨r2, q1, q2, q3⟩ := ho v2 s2 gg2 rfl
    refine ev_callP (sX4_takeOldName hT (k := 0) (by decide) (by decide) b _ h2c k2.1 hN q1 d hd) (fun v3 μ3 ⟨f3', h3'⟩ => ev_if hGi (ev_if hGi (ev_if hGi ?_)))
    have f3 : Fj rdJ (m2 μ2 (tw (!b) + 8) (GL.length : Int) v2) μ3 := f3'
    have sm3 := dsm_fj (b := b) f3
    have k3 := Cl_sm sm3 k2
    have g3 := dfr_tr g2 (dfr_fj (b := b) f3)
    rcases r2 with e | ⟨c, s3, gg3⟩
    · exact dead e _ v3 _ μ3 g3 h3' k3 (q2 e rfl)
    · obtain ⟨hvc, h3⟩ := h3'
      have hvc' : v3 = c := hvc
      subst hvc'
      obtain ⟨p1, p2⟩ := q3 v3 s3 gg3 rfl
      have h3c : CLv T n (m2 μ3 (tw (!b) + 9) (GL.length : Int) v3) s3 gg3 := CLv_tw (b := b) h3 (by omega)
      have e8 : m2 μ3 (tw (!b) + 9) (GL.length : Int) v3 (tw (!b) + 8) (GL.length : Int) = v2 := by
        rw [m2_ne (by omega), sm3 _ (by omega) (by omega), m2_at, if_pos rfl]
      have e9 : m2 μ3 (tw (!b) + 9) (GL.length : Int) v3 (tw (!b) + 9) (GL.length : Int) = v3 := by
        rw [m2_at, if_pos rfl]
      have g3' : Dfr b μ0 (m2 μ3 (tw (!b) + 9) (GL.length : Int) v3) := dfr_m2 g3 (by omega)
      have k3' := Cl_gw k3 (a := 9) (by omega) v3
      have e7 : m2 μ2 (tw (!b) + 8) (GL.length : Int) v2 1 7 = s2 := h2c.2.2.2.2.1.2.2.2.1
      refine ev_br (fun w => ?_) (fun w => ?_)
      · have w' : m2 μ3 (tw (!b) + 9) (GL.length : Int) v3 (tw (!b) + 8) (GL.length : Int) = m2 μ3 (tw (!b) + 9) (GL.length : Int) v3 (tw (!b) + 9) (GL.length : Int) := w
        rw [e8, e9] at w'
        rw [p1 w']
        have e7' : m2 (v2, SH, μ2, RHO b).2.2.1 (tw (!b) + 8) (GL.length : Int) (v2, SH, μ2, RHO b).1 1 7 = s2 := e7
        rw [e7']
        refine ev_callP (sX4_fail 3 s2 (by decide) b _ h3c d (by omega)) (fun v4 μ4 ⟨f4', h4'⟩ => ?_)
        have f4 : Fj rdJ (m2 μ3 (tw (!b) + 9) (GL.length : Int) v3) μ4 := f4'
        exact cg79_dd hd hN hG (dfr_tr g3' (dfr_fj f4)) h4' (Cl_sm (dsm_fj (b := b) f4) k3') _
      · have w' : v2 ≠ v3 := fun q => w (by show m2 μ3 (tw (!b) + 9) (GL.length : Int) v3 (tw (!b) + 8) (GL.length : Int) = m2 μ3 (tw (!b) + 9) (GL.length : Int) v3 (tw (!b) + 9) (GL.length : Int); rw [e8, e9]; exact q)
        exact p2 w' μ0 _ g3' h3c k3' e8 e9 _
/-- the reference, from behind the word gate on -/
theorem rg_head (hT : Tp T n) {d : Nat} (hd : 6 ≤ d) (hN : NOk N) {ν0 ν : Nat → Int → Int} {s p G3 : Int} {g : Bool} (hf : Rfr stJ ν0 ν) (h : RSv T n ν s g) (hr : Rl ν (N, ML, GL, PL, C, H)) {r1 : Sum (Int × Int) (Int × Int × Bool)} (h1 : olR T n s g (N 0) r1) {r : SR}
  (he : ∀ e, r1 = .inl e → r = .inl e)
  (ho : ∀ a s2 g2, r1 = .inr (a, s2, g2) → ∃ r2, olR T n s2 g2 (N 0) r2 ∧ (∀ e, r2 = .inl e → r = .inl e) ∧ ∀ c s3 g3, r2 = .inr (c, s3, g3) → (a = c → r = .inl (3, s2)) ∧ (a ≠ c → ∀ ν0 ν, Rfr stJ ν0 ν → RSv T n ν s3 g3 → Rl ν (N, ML, GL, PL, C, H) → Ev (fun m => mRun (mCallN d) kX10_gateTold m 56 [some (mP 96), some (mI p), some (mI G3), some (mI a), some (mI c), none] [] (SH, ν, RHO b)) b (fun _ ν' => RSS T n ν0 ν' r))) :
  Ev (fun n => (mOptR (mCallN d 96 [mP 96, mI 0] (SH, ν, RHO b)) (fun x2 => (mOptR (mCallN d 96 [mP 96, mI 0] (SH, x2.2.2.1, RHO b)) (fun x3 => mBr ((x3.2.2.1 96 5 : Int) = 0) (mBr ((x2.1 : Int) = x3.1) ((mOptR (mCallN d 36 [mP 96, mI 3, mI (x3.2.2.1 96 31)] (SH, x3.2.2.1, RHO b)) (fun x4 => mRun (mCallN d) kX10_gateTold n 56 [some (mP 96), some (mI p), some (mI G3), some (mI x2.1), some (mI x3.1), none] [] (SH, x4.2.2.1, RHO b)))) (mRun (mCallN d) kX10_gateTold n 56 [some (mP 96), some (mI p), some (mI G3), some (mI x2.1), some (mI x3.1), none] [] (SH, x3.2.2.1, RHO b))) (mRun (mCallN d) kX10_gateTold n 56 [some (mP 96), some (mI p), some (mI G3), some (mI x2.1), some (mI x3.1), none] [] (SH, x3.2.2.1, RHO b))))))) b (fun _ ν' => RSS T n ν0 ν' r) := by
  refine ev_callP (sX10_oneOf hT b ν h hr.1 hN (k := 0) (by decide) (by decide) h1 d (by omega)) (fun v2 ν2 ⟨f2', h2'⟩ => ?_)
  have f2 : Fg [] lxJ ν ν2 := f2'
  have k2 := Rl_lex f2 hr
  rcases r1 with e | ⟨a, s2, gg2⟩
  · have h2 : RBd ν2 e := h2'.2
    rw [he e rfl]
    refine ev_call (bd_oneOf ν2 h2 k2.1 hN (k := 0) (by decide) (by decide) d (by omega)) (ev_neg (by show ¬ ν2 96 5 = 0; rw [h2.1]; exact h2.2.1) ?_)
    exact rg56_bd (by omega) hN (rfr_fg hf f2 (by decide)) h2 k2.1 _ _ _ _
  · obtain ⟨hva, h31, h2⟩ := h2'
    have hva' : v2 = a := hva
    subst hva'
    obtain ⟨r2, q1, q2, q3⟩ := ho v2 s2 gg2 rfl
    refine ev_callP (sX10_oneOf hT b ν2 h2 k2.1 hN (k := 0) (by decide) (by decide) q1 d (by omega)) (fun v3 ν3 ⟨f3', h3'⟩ => ?_)
    have f3 : Fg [] lxJ ν2 ν3 := f3'
    have f23 : Fg [] lxJ ν ν3 := fg_tr f2 f3 (by decide) (by decide)
    have k3 := Rl_lex f3 k2
    rcases r2 with e | ⟨c, s3, gg3⟩
    · have h3 : RBd ν3 e := h3'.2
      rw [q2 e rfl]
      exact ev_neg (by show ¬ ν3 96 5 = 0; rw [h3.1]; exact h3.2.1) (rg56_bd (by omega) hN (rfr_fg hf f23 (by decide)) h3 k3.1 _ _ _ _)
    · obtain ⟨hvc, h31', h3⟩ := h3'
      have hvc' : v3 = c := hvc
      subst hvc'
      obtain ⟨p1, p2⟩ := q3 v3 s3 gg3 rfl
      refine ev_pos h3.1 (ev_br (fun w => ?_) (fun w => p2 w ν0 ν3 (rfr_fg hf f23 (by decide)) h3 k3))
      rw [p1 w]
      have e31 : (v3, SH, ν3, RHO b).2.2.1 96 31 = s2 := h31'
      rw [e31]
      refine ev_callP (sX10_fail0 3 s2 (by decide) b ν3 h3.1 d (by omega)) (fun v4 ν4 ⟨f4', h4'⟩ => ?_)
      have f4 : Fg [] [5, 6] ν3 ν4 := f4'
      exact rg56_bd (by omega) hN (rfr_fg (rfr_fg hf f23 (by decide)) f4 (by decide)) h4' (RNm_sm (f4.1 120 (by simp) (by decide)) (f4.1 121 (by simp) (by decide)) k3.1) _ _ _ _
theorem J_gate (b bx : Bool) (hT : Tp T n) (hD : DOk (N, ML, GL, PL, C, H)) {s : Int} {g : Bool} (hv : VC T n s) (hs : (C.length : Int) ≤ s) (hw : tkW T n s g = 5) : ∃ r, JS b bx T n 169 49 (N, ML, GL, PL, C, H) s g r := by
  have hlt : s < n := (tkW_pos (g := g) hT hv (by omega)).2.1
  have hx := nx_in hT hv
  have hss := hx.2.2.1 hlt
  obtain ⟨hN, ⟨l0, l1, l3⟩, ⟨m1, m2', m3⟩, -⟩ := id hD
  by_cases hf : GL.length < 12
  · obtain ⟨r1, h1⟩ := olR_ex T n (nxS T n s) (nxG T n s g) (N 0)
    have key : ∃ r : SR, (∀ e, r1 = .inl e → r = .inl e) ∧ (∀ a s2 g2, r1 = .inr (a, s2, g2) → ∃ r2, olR T n s2 g2 (N 0) r2 ∧ (∀ e, r2 = .inl e → r = .inl e) ∧ ∀ c s3 g3, r2 = .inr (c, s3, g3) → (a = c → r = .inl (3, s2)) ∧ (a ≠ c → (∀ d, 4 ≤ d → ∀ μ0 μ, Dfr b μ0 μ → CLv T n μ s3 g3 → Cl b μ (N, ML, GL, PL, C, H) → μ (tw (!b) + 8) (GL.length : Int) = a → μ (tw (!b) + 9) (GL.length : Int) = c → ∀ v2, Ev (fun m => mRun (mCallN d) kX4_readGate m 79 [some (mP 1), some (mI (GL.length : Int)), some (mI v2), none] [] (SH, μ, RHO b)) b (fun _ μ' => CSS b T n μ0 μ' r)) ∧ (∀ d, 6 ≤ d → ∀ ν0 ν, Rfr stJ ν0 ν → RSv T n ν s3 g3 → Rl ν (N, ML, GL, PL, C, H) → ∀ p, Ev (fun m => mRun (mCallN d) kX10_gateTold m 56 [some (mP 96), some (mI p), some (mI (3 * (GL.length : Int))), some (mI a), some (mI c), none] [] (SH, ν, RHO bx)) bx (fun _ ν' => RSS T n ν0 ν' r)))) ∧ SOk T n s r := by
      rcases r1 with e | ⟨a, s2, g2⟩
      · exact ⟨.inl e, fun e' q => (by cases q; rfl), fun a s2 g2 q => (by cases q), trivial⟩
      · obtain ⟨hn1, a0, ha, hs2, hg2⟩ := id h1
        have hx1 := nx_in hT hx.1
        obtain ⟨r2, h2⟩ := olR_ex T n s2 g2 (N 0)
        have ha1 : a < ((N 0).length : Int) := by
          rcases ixN_or (N 0) (nmL T n (nxS T n s)) with ⟨q, -⟩ | ⟨-, q, -⟩ <;> omega
        rcases r2 with e | ⟨c, s3, g3⟩
        · exact ⟨.inl e, fun e' q => (by cases q), fun a' s' g' q => by cases q; exact ⟨_, h2, fun e' q => (by cases q; rfl), fun c s3 g3 q => (by cases q)⟩, trivial⟩
        · obtain ⟨hn2, c0, hc, hs3, hg3⟩ := id h2
          have hx2 := nx_in hT (show VC T n s2 by rw [hs2]; exact hx1.1)
          have hc1 : c < ((N 0).length : Int) := by
            rcases ixN_or (N 0) (nmL T n s2) with ⟨q, -⟩ | ⟨-, q, -⟩ <;> omega
          by_cases hac : a = c
          · exact ⟨.inl (3, s2), fun e' q => (by cases q), fun a' s' g' q => by cases q; exact ⟨_, h2, fun e' q => (by cases q), fun c' s3 g3 q => by cases q; exact ⟨fun _ => rfl, fun q => absurd hac q⟩⟩, trivial⟩
          · obtain ⟨r, t1, t2, t3⟩ := J_gtail (b := b) (g := g3) hT hD hf ⟨a0, ha1⟩ ⟨c0, hc1⟩ hac (show VC T n s3 by rw [hs3]; exact hx2.1)
            refine ⟨r, fun e' q => (by cases q), fun a' s' g' q => by cases q; exact ⟨_, h2, fun e' q => (by cases q), fun c' s3 g3 q => by cases q; exact ⟨fun q => absurd q hac, fun _ => ⟨t1, t2⟩⟩⟩, ?_⟩
            rcases r with e | ⟨D', s', g'⟩
            · exact trivial
            · obtain ⟨u1, u2, u3, u4⟩ := t3 D' s' g' rfl
              have p1 := hx1.2.1
              have p2 := hx2.2.1
              exact ⟨u1, by omega, u3, by rw [u4]; omega⟩
    obtain ⟨r, he, ho, hok⟩ := key
    refine ⟨r, fun D hd μ h hc => ?_, fun D hd ν h hr => ?_, hok⟩
    · obtain ⟨d, rfl⟩ : ∃ d, D = d + 1 := ⟨D - 1, by omega⟩
      have hk0 : μ (tw (!b) + 1) 2 = (GL.length : Int) := hc.2.2.1.1
      refine cal_ev (fun r => call_X4_readGate d b μ) (ev_row (fun m => tX4_readGate_0 _ m b μ) (ev_callP (cl_more hT (k := 2) (by decide) b μ h (by show μ (tw (!b) + 1) 2 < (12 : Int); omega) d (by omega)) (fun v μ1 ⟨hv1, f1', h1'⟩ => ?_)))
      have f1 : Fj rdJ μ μ1 := f1'
      have k1 := Cl_sm (dsm_fj (b := b) f1) hc
      have hG1 : (v, SH, μ1, RHO b).2.2.1 (tw (!b) + 1) 2 = (GL.length : Int) := k1.2.2.1.1
      refine ev_neg (by show ¬ v = 0; omega) ?_
      rw [hG1]
      exact cg_head hT (by omega) hN hf (dfr_fj f1) h1' k1 h1 he (fun a s2 g2 q => by
        obtain ⟨r2, q1, q2, q3⟩ := ho a s2 g2 q
        exact ⟨r2, q1, q2, fun c s3 g3 w => ⟨(q3 c s3 g3 w).1, fun w2 => ((q3 c s3 g3 w).2 w2).1 d (by omega)⟩⟩)
    · obtain ⟨d, rfl⟩ : ∃ d, D = d + 1 := ⟨D - 1, by omega⟩
      have hk0 : ν 120 3 = (GL.length : Int) := hr.2.2.2.1.1
      refine cal_ev (fun r => call_X10_gateTold d bx ν s) (ev_row (fun m => tX10_gateTold_0 _ m bx ν s) (ev_call (rf_more bx ν h 3 12 s (by decide) (by decide) (by omega) d (by omega)) (ev_pos rfl ?_)))
      have hG1 : w32 (3 * ((0 : Int), SH, ν, RHO bx).2.2.1 120 3) = 3 * (GL.length : Int) := by
        show w32 (3 * ν 120 3) = _
        rw [hk0]; exact w32_id (by omega) (by omega)
      rw [hG1]
      exact rg_head hT (by omega) hN rfr_rfl h hr h1 he (fun a s2 g2 q => by
        obtain ⟨r2, q1, q2, q3⟩ := ho a s2 g2 q
        exact ⟨r2, q1, q2, fun c s3 g3 w => ⟨(q3 c s3 g3 w).1, fun w2 ν0 ν hf h hr => ((q3 c s3 g3 w).2 w2).2 d (by omega) ν0 ν hf h hr s⟩⟩)
  · refine ⟨.inl (5, s), fun D hd μ h hc => ?_, fun D hd ν h hr => ?_, trivial⟩
    · obtain ⟨d, rfl⟩ : ∃ d, D = d + 1 := ⟨D - 1, by omega⟩
      have hk0 : μ (tw (!b) + 1) 2 = (GL.length : Int) := hc.2.2.1.1
      refine cal_ev (fun r => call_X4_readGate d b μ) (ev_row (fun m => tX4_readGate_0 _ m b μ) (ev_callP (cl_full hT (k := 2) (by decide) b μ h (by show ¬ μ (tw (!b) + 1) 2 < (12 : Int); omega) d (by omega)) (fun v μ1 ⟨hv1, f1, h1⟩ => ev_pos hv1 (ev_ret ⟨dfr_fj f1, h1⟩))))
    · obtain ⟨d, rfl⟩ : ∃ d, D = d + 1 := ⟨D - 1, by omega⟩
      have hk0 : ν 120 3 = (GL.length : Int) := hr.2.2.2.1.1
      refine cal_ev (fun r => call_X10_gateTold d bx ν s) (ev_row (fun m => tX10_gateTold_0 _ m bx ν s) (ev_callP (rf_full bx ν h 3 12 s (by decide) (by decide) (by omega) d (by omega)) (fun v ν1 ⟨hv1, f1, h1⟩ => ev_neg (by show ¬ v = 0; omega) (ev_ret ⟨rfr_fg rfr_rfl f1 (by decide), h1⟩))))
end
