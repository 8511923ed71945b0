/-! ===== chains and facts, the class ===== -/
def jL (j : Int) : List Int := if j = 0 then [] else [j]
/-- a chain from a part on, with a joint that waits -/
def lpR (T : Int → Int) (n lv j : Int) (ro rl : CR) : CR := match ro with
  | .inl e => .inl e
  | .inr (L, s, g) => if jnt T n s g lv = 0 then .inr (L ++ jL j, s, g) else pre (L ++ jL j) rl
def isJ (j : Int) : Prop := j = 0 ∨ (1 ≤ j ∧ j ≤ 4) ∨ j = 15 ∨ j = 16
theorem jnt_J (T : Int → Int) (n s : Int) (g : Bool) (lv : Int) : isJ (jnt T n s g lv) := by
  unfold jnt isJ
  (repeat' split) <;> omega
theorem jC_J {j : Int} (h : isJ j) : (jC j = -1 ↔ j = 0) := by
  unfold isJ at h
  unfold jC
  by_cases c : j = 0
  · rw [if_pos c]; exact ⟨fun _ => c, fun _ => rfl⟩
  · rw [if_neg c]
    refine ⟨fun q => ?_, fun q => absurd q c⟩
    exfalso
    unfold cOf at q
    rw [if_neg (by omega)] at q
    by_cases c16 : j = 16
    · rw [if_neg (by omega), if_neg (by omega), if_pos c16] at q; omega
    · by_cases c15 : j = 15
      · rw [if_neg (by omega), if_neg (by omega), if_neg (by omega), if_pos c15] at q; omega
      · rw [if_neg (by omega), if_neg (by omega), if_neg (by omega), if_neg (by omega), if_neg (by omega), if_neg (by omega)] at q; omega
theorem jnt_lt {T : Int → Int} {n s : Int} {g : Bool} (hT : Tp T n) (hv : VC T n s) {lv : Int} (h : jnt T n s g lv ≠ 0) : s < n := by
  have hk : tkK T n s g = 1 ∨ tkK T n s g = 3 := by
    by_cases c1 : tkK T n s g = 1
    · exact Or.inl c1
    · by_cases c3 : tkK T n s g = 3
      · exact Or.inr c3
      · exfalso
        apply h
        have e1 : tkW T n s g = -1 := by unfold tkW; rw [if_neg c1]
        have e2 : tkS T n s g = -1 := by unfold tkS; rw [if_neg c3]
        unfold jnt
        rw [e1, e2]
        (repeat' split) <;> first | rfl | omega
  rcases hk with hk | hk
  · exact (tkK1 hT hv hk).1
  · exact (tkK3 hT hv hk).1
/-- the class in a chain, ahead of a part -/
def CLp (b : Bool) (T : Int → Int) (n : Int) (D : Nat) (lv o j s : Int) (g : Bool) (r : CR) : Prop := ∀ d, D ≤ d → ∀ (μ : Nat → Int → Int) (i : Int), CLv T n μ s g → 0 ≤ μ (tw (!b)) 13 → μ (tw (!b)) 13 + ((jL j).length : Int) ≤ s → 0 ≤ i → 2 * i ≤ s → Ev (fun m => mRun (mCallN d) kX4_readChain m 5 [some (mP 1), some (mI lv), some (mI o), some (mI (jC j)), some (mI i)] [] (SH, μ, RHO b)) b (fun _ μ' => CSt b T n μ μ' r)
/-- the operand of a chain's level -/
def opA (lv o : Int) : Nat × List mV := if lv = 1 then (168, [mP 1, mI o]) else if lv = 3 then (171, [mP 1, mI o]) else (167, [mP 1, mI (lv + 1), mI o])
theorem cl_loop {b : Bool} {T : Int → Int} {n : Int} (hT : Tp T n) {D : Nat} (hD : 3 ≤ D) {lv o j s : Int} {g : Bool} (hlv : 0 ≤ lv ∧ lv ≤ 3) (hj : isJ j) (hs1 : s ≤ n) (ro rl : CR) (ho : CSp b T n D (opA lv o).1 (opA lv o).2 s g ro) (go : Gd n s ro) (hl : ∀ L s1 g1, ro = .inr (L, s1, g1) → jnt T n s1 g1 lv ≠ 0 → CLp b T n D lv o (jnt T n s1 g1 lv) (nxS T n s1) (nxG T n s1 g1) rl) : CLp b T n D lv o j s g (lpR T n lv j ro rl) := fun d hd μ i h h0 hs i0 i1 => by
  have hn1 := hT.2.1
  have hjl : (0 : Int) ≤ ((jL j).length : Int) := Int.natCast_nonneg _
  -- behind the operand
  have beh : ∀ μ1 : Nat → Int → Int, CSt b T n μ μ1 ro → Ev (fun m => mRun (mCallN d) kX4_readChain m 47 [some (mP 1), some (mI lv), some (mI o), some (mI (jC j)), some (mI i)] [] (SH, μ1, RHO b)) b (fun _ μ' => CSt b T n μ μ' (lpR T n lv j ro rl)) := fun μ1 hr => by
    have dead60 : ∀ (μ2 : Nat → Int → Int) (e : Int × Int), ro = .inl e → Xf b μ μ2 → 0 ≤ μ2 (tw (!b)) 13 → CDd T n μ2 e → Ev (fun m => mRun (mCallN d) kX4_readChain m 60 [some (mP 1), some (mI lv), some (mI o), some (mI (jC j)), some (mI i)] [] (SH, μ2, RHO b)) b (fun _ μ' => CSt b T n μ μ' (lpR T n lv j ro rl)) := fun μ2 e he a1 a2 a3 => by
      refine ev_row (fun m => tX4_readChain_60 _ m b μ2 _ _ _ _) (ev_call (sX4_nextJoint_dd lv b μ2 a3 d (by omega)) (ev_pos rfl (ev_ret ?_)))
      rw [he]
      exact ⟨a1, a2, a3⟩
    have live60 : ∀ (μ2 : Nat → Int → Int) (L : List Int) (s1 : Int) (g1 : Bool), ro = .inr (L, s1, g1) → Xf b μ μ2 → App b μ μ2 (L ++ jL j) → CLv T n μ2 s1 g1 → Ev (fun m => mRun (mCallN d) kX4_readChain m 60 [some (mP 1), some (mI lv), some (mI o), some (mI (jC j)), some (mI i)] [] (SH, μ2, RHO b)) b (fun _ μ' => CSt b T n μ μ' (lpR T n lv j ro rl)) := fun μ2 L s1 g1 he a1 a2 a3 => by
      have hJ := jnt_J T n s1 g1 lv
      have gg := go
      rw [he] at gg
      obtain ⟨gg1, gg2, gg3⟩ := gg
      refine ev_row (fun m => tX4_readChain_60 _ m b μ2 _ _ _ _) (ev_call (sX4_nextJoint lv b μ2 a3 d (by omega)) ?_)
      have hlp : lpR T n lv j ro rl = if jnt T n s1 g1 lv = 0 then .inr (L ++ jL j, s1, g1) else pre (L ++ jL j) rl := by rw [he]; rfl
      rw [hlp]
      by_cases c : jnt T n s1 g1 lv = 0
      · rw [if_pos c]
        exact ev_pos (by show jC (jnt T n s1 g1 lv) = -1; exact (jC_J hJ).2 c) (ev_ret ⟨a1, a2, a3⟩)
      · rw [if_neg c]
        refine ev_neg (by show ¬ jC (jnt T n s1 g1 lv) = -1; exact fun q => c ((jC_J hJ).1 q)) (ev_callP (sX4_take hT b μ2 a3 d (by omega)) (fun _ μ3 ⟨f3, l3⟩ => ?_))
        dsimp only
        have hx := nx_in hT a3.2.2.2.2.2
        have hsn := jnt_lt hT a3.2.2.2.2.2 c
        have hx2 := hx.2.2.1 hsn
        have hlen := a2.1
        rw [List.length_append] at hlen
        have hj1 : ((jL (jnt T n s1 g1 lv)).length : Int) = 1 := by unfold jL; rw [if_neg c]; rfl
        rw [w32_id (by omega) (by omega)]
        refine ev_mono (hl L s1 g1 he c d hd μ3 (i + 1) l3 (by rw [fj13 f3]; omega) (by rw [fj13 f3, hj1]; omega) (by omega) (by omega)) (fun v μ4 hr4 => ?_)
        rcases rl with e | ⟨K, s4, g4⟩
        · exact ⟨xf_tr a1 (xf_tr (xf_fj f3) hr4.1), hr4.2.1, hr4.2.2⟩
        · refine ⟨xf_tr a1 (xf_tr (xf_fj f3) hr4.1), ?_, hr4.2.2⟩
          have := app_tr a2 (app_tr (app_fj (b := b) f3) hr4.2.1)
          rwa [List.nil_append] at this
    refine ev_row (fun m => tX4_readChain_47 _ m b μ1 _ _ _ _) ?_
    by_cases c : j = 0
    · refine ev_pos ((jC_J hj).2 c) ?_
      rcases hro : ro with e | ⟨L, s1, g1⟩
      · rw [hro] at hr
        have := dead60 μ1 e hro hr.1 hr.2.1 hr.2.2
        rw [hro] at this
        exact this
      · rw [hro] at hr
        have := live60 μ1 L s1 g1 hro hr.1 (by unfold jL; rw [if_pos c, List.append_nil]; exact hr.2.1) hr.2.2
        rw [hro] at this
        exact this
    · refine ev_neg (fun q => c ((jC_J hj).1 q)) ?_
      have hjc : jC j = cOf j := by unfold jC; rw [if_neg c]
      have hjl1 : jL j = [j] := by unfold jL; rw [if_neg c]
      rcases hro : ro with e | ⟨L, s1, g1⟩
      · rw [hro] at hr
        refine ev_callP (sX7_emit_dd (jC j) b μ1 hr.2.1 d (by omega)) (fun _ μ2 ⟨d1, d2, d3, d4, d5⟩ => ?_)
        have := dead60 μ2 e hro (xf_tr hr.1 d1) d2 (CDd_same hr.2.2 d3 d4 d5)
        rw [hro] at this
        exact this
      · rw [hro] at hr
        have gg := go
        rw [hro] at gg
        obtain ⟨gg1, gg2, gg3⟩ := gg
        have hlen := hr.2.1.1
        have hone : ((jL j).length : Int) = 1 := by rw [hjl1]; rfl
        refine ev_callP (sX7_emit (jC j) j hjc b μ1 (by omega) (by omega) d (by omega)) (fun _ μ2 ⟨d1, d2, d3, d4, d5⟩ => ?_)
        have := live60 μ2 L s1 g1 hro (xf_tr hr.1 d1) (by rw [hjl1]; exact app_tr hr.2.1 d2) (CLv_same hr.2.2 d3 d4 d5)
        rw [hro] at this
        exact this
  refine ev_row (fun m => tX4_readChain_5 _ m b μ _ _ _ _) (ev_pos (by omega) ?_)
  have hc := ho d hd μ h h0 (by omega)
  unfold opA at hc
  by_cases c1 : lv = 1
  · rw [if_pos c1] at hc
    exact ev_pos c1 (ev_callP hc (fun _ μ1 hr => beh μ1 hr))
  · rw [if_neg c1] at hc
    refine ev_neg c1 ?_
    by_cases c3 : lv = 3
    · rw [if_pos c3] at hc
      exact ev_pos c3 (ev_callP hc (fun _ μ1 hr => beh μ1 hr))
    · rw [if_neg c3] at hc
      refine ev_neg c3 ?_
      rw [w32_id (by omega) (by omega)]
      exact ev_callP hc (fun _ μ1 hr => beh μ1 hr)
theorem cl_chain {b : Bool} {T : Int → Int} {n : Int} {D : Nat} {lv o s : Int} {g : Bool} {r : CR} (h : CLp b T n D lv o 0 s g r) (hs : 0 ≤ s) : CSp b T n (D + 1) 167 [mP 1, mI lv, mI o] s g r := fun d hd μ hl h0 h1 => by
  obtain ⟨d, rfl⟩ : ∃ d', d = d' + 1 := ⟨d - 1, by omega⟩
  have h2 := h d (by omega) μ 0 hl h0 (by unfold jL; rw [if_pos rfl]; simpa using h1) (by decide) (by omega)
  rw [show jC 0 = -1 from rfl] at h2
  exact cal_ev (fun r => call_X4_readChain d b μ lv o) (ev_row (fun m => tX4_readChain_0 _ m b μ lv o) h2)
/-- a comparison's code -/
def cmpY (c : Int) : Int := if c = 60 then 12 else if c = 62 then 13 else 14
/-- a fact: not, brackets, all, or a comparison of two sums -/
def cpR (T : Int → Int) (n : Int) (r1 r2 : CR) : CR := match r1 with
  | .inl e => .inl e
  | .inr (L, s, g) => if tkS T n s g = 60 ∨ tkS T n s g = 62 ∨ tkS T n s g = 61 then suf (cmpY (tkS T n s g)) (pre L r2) else .inl (1, s)
def faR (T : Int → Int) (n o s : Int) (g : Bool) (rn rq r1 r2 : CR) : CR := if tkW T n s g = 18 then (if o < 6 then suf 17 rn else .inl (4, s)) else if tkS T n s g = 91 then (if o < 6 then sgR T n 93 rq else .inl (4, s)) else if tkW T n s g = 19 then .inr ([18], nxS T n s, nxG T n s g) else cpR T n r1 r2
theorem cmp_c {c : Int} : cmpO c = cOf (cmpY c) := by
  unfold cmpO cmpY
  by_cases h1 : c = 60
  · rw [if_pos h1, if_pos h1]; rfl
  · rw [if_neg h1, if_neg h1]
    by_cases h2 : c = 62
    · rw [if_pos h2, if_pos h2]; rfl
    · rw [if_neg h2, if_neg h2]; rfl
theorem cl_fact {b : Bool} {T : Int → Int} {n : Int} (hT : Tp T n) {D : Nat} (hD : 9 ≤ D) {o s : Int} {g : Bool} (o0 : 0 ≤ o) (o6 : o ≤ 6) (rn rq r1 r2 : CR) (hn : tkW T n s g = 18 → o < 6 → CSp b T n D 168 [mP 1, mI (o + 1)] (nxS T n s) (nxG T n s g) rn) (gn : Gd n (nxS T n s) rn) (hq : tkS T n s g = 91 → o < 6 → CSp b T n D 167 [mP 1, mI 0, mI (o + 1)] (nxS T n s) (nxG T n s g) rq) (h1 : tkW T n s g ≠ 18 → tkS T n s g ≠ 91 → tkW T n s g ≠ 19 → CSp b T n D 167 [mP 1, mI 2, mI o] s g r1) (g1 : Gd n s r1) (h2 : ∀ L s2 g2, r1 = .inr (L, s2, g2) → (tkS T n s2 g2 = 60 ∨ tkS T n s2 g2 = 62 ∨ tkS T n s2 g2 = 61) → CSp b T n D 167 [mP 1, mI 2, mI o] (nxS T n s2) (nxG T n s2 g2) r2) (g2' : ∀ L s2 g2, r1 = .inr (L, s2, g2) → Gd n (nxS T n s2) r2) : CSp b T n (D + 1) 168 [mP 1, mI o] s g (faR T n o s g rn rq r1 r2) := fun d hd μ h h0 hs => by
  obtain ⟨d, rfl⟩ : ∃ d', d = d' + 1 := ⟨d - 1, by omega⟩
  obtain ⟨m2', m3, mf, mp, ⟨t4, t5, t6, t7, t8⟩, hv⟩ := h
  have h : CLv T n μ s g := ⟨m2', m3, mf, mp, ⟨t4, t5, t6, t7, t8⟩, hv⟩
  have hn1 := hT.2.1
  have hvn := nx_in hT hv
  have e1 : w32 (o + 1) = o + 1 := w32_id (by omega) (by omega)
  refine cal_ev (fun r => call_X4_readFact d b μ o) (ev_row (fun m => tX4_readFact_0 _ m b μ o) ?_)
  rw [t5, t6, e1]
  unfold faR
  by_cases c : tkW T n s g = 18
  · rw [if_pos c]
    refine ev_pos c ?_
    have hsn := (tkW_pos hT hv (by omega : 0 ≤ tkW T n s g)).2.1
    have hlt := hvn.2.2.1 hsn
    by_cases c2 : o < 6
    · rw [if_pos c2]
      refine ev_callP (sX4_takeOpening_ok hT o c2 b μ h d (by omega)) (fun v μ1 ⟨hv1, f1, l1⟩ => ev_neg (by show ¬ v = 0; omega) (ev_callP (hn c c2 d (by omega) μ1 l1 (by rw [fj13 f1]; exact h0) (by rw [fj13 f1]; omega)) (fun _ μ2 hr => ?_)))
      rcases rn with e | ⟨L, s2, g2⟩
      · exact ev_callP (sX7_emit_dd _ b μ2 hr.2.1 d (by omega)) (fun _ μ3 ⟨d1, d2, d3, d4, d5⟩ => ev_row (fun m => tX4_readFact_119 _ m b μ3 o _) (ev_ret ⟨xf_tr (xf_fj f1) (xf_tr hr.1 d1), d2, CDd_same hr.2.2 d3 d4 d5⟩))
      · obtain ⟨a1, a2, a3⟩ := hr
        have hl := a2.1
        rw [fj13 f1] at hl
        obtain ⟨gg1, gg2, gg3⟩ := gn
        refine ev_callP (sX7_emit (-10) 17 rfl b μ2 (by omega) (by omega) d (by omega)) (fun _ μ3 ⟨d1, d2, d3, d4, d5⟩ => ev_row (fun m => tX4_readFact_119 _ m b μ3 o _) (ev_ret ⟨xf_tr (xf_fj f1) (xf_tr a1 d1), ?_, CLv_same a3 d3 d4 d5⟩))
        have := app_tr (app_fj (b := b) f1) (app_tr a2 d2)
        rwa [List.nil_append] at this
    · rw [if_neg c2]
      exact ev_callP (sX4_takeOpening_er o c2 b μ h d (by omega)) (fun v μ1 ⟨hv1, f1, l1⟩ => ev_pos (show v = 0 from hv1) (ev_row (fun m => tX4_readFact_119 _ m b μ1 o _) (ev_ret (cst_er xf_rfl f1 l1 h0))))
  · rw [if_neg c]
    refine ev_neg c ?_
    by_cases cq : tkS T n s g = 91
    · rw [if_pos cq]
      refine ev_pos cq ?_
      by_cases c2 : o < 6
      · rw [if_pos c2]
        refine ev_callP (sX4_takeOpening_ok hT o c2 b μ h d (by omega)) (fun v μ1 ⟨hv1, f1, l1⟩ => ev_neg (by show ¬ v = 0; omega) (ev_callP (hq cq c2 d (by omega) μ1 l1 (by rw [fj13 f1]; exact h0) (by rw [fj13 f1]; omega)) (fun _ μ2 hr => ?_)))
        have hr' : CSt b T n μ μ2 rq := by
          rcases rq with e | ⟨L, s2, g2⟩
          · exact ⟨xf_tr (xf_fj f1) hr.1, hr.2.1, hr.2.2⟩
          · exact ⟨xf_tr (xf_fj f1) hr.1, by have := app_tr (app_fj (b := b) f1) hr.2.1; rwa [List.nil_append] at this, hr.2.2⟩
        exact ev_callP (cl_sign hT (by omega) (by decide) hr' h0) (fun _ μ3 h3 => ev_row (fun m => tX4_readFact_119 _ m b μ3 o _) (ev_ret h3))
      · rw [if_neg c2]
        exact ev_callP (sX4_takeOpening_er o c2 b μ h d (by omega)) (fun v μ1 ⟨hv1, f1, l1⟩ => ev_pos (show v = 0 from hv1) (ev_row (fun m => tX4_readFact_119 _ m b μ1 o _) (ev_ret (cst_er xf_rfl f1 l1 h0))))
    · rw [if_neg cq]
      refine ev_neg cq ?_
      by_cases ca : tkW T n s g = 19
      · rw [if_pos ca]
        have hsn := (tkW_pos hT hv (by omega : 0 ≤ tkW T n s g)).2.1
        refine ev_pos ca (ev_callP (sX7_emit 1 18 rfl b μ h0 (by omega) d (by omega)) (fun _ μ1 ⟨d1, d2, d3, d4, d5⟩ => ev_callP (sX4_take hT b μ1 (CLv_same h d3 d4 d5) d (by omega)) (fun _ μ2 ⟨f2, l2⟩ => ev_row (fun m => tX4_readFact_119 _ m b μ2 o _) (ev_ret ⟨xf_tr d1 (xf_fj f2), ?_, l2⟩))))
        have := app_tr d2 (app_fj (b := b) f2)
        rwa [List.append_nil] at this
      · rw [if_neg ca]
        refine ev_neg ca (ev_callP (h1 c cq ca d (by omega) μ h h0 hs) (fun _ μ1 hr => ?_))
        have ded : ∀ (μ2 : Nat → Int → Int) (v2 : Int) (e : Int × Int), Xf b μ μ2 → 0 ≤ μ2 (tw (!b)) 13 → CDd T n μ2 e → Ev (fun m => mOptR (mCallN d 167 [mP 1, mI 2, mI o] (SH, μ2, RHO b)) (fun x3 => mOptR (mCallN d 198 [mP (tw (!b)), mI v2] (SH, x3.2.2.1, RHO b)) (fun x4 => mRun (mCallN d) kX4_readFact m 119 [some (mP 1), some (mI o), some (mI v2)] [] (SH, x4.2.2.1, RHO b)))) b (fun _ μ' => CSt b T n μ μ' (.inl e)) := fun μ2 v2 e a1 a2 a3 => ev_callP (dd_chain2 o d (by omega) μ2 e a3 a2) (fun _ μ3 ⟨c1, c2, c3⟩ => ev_callP (sX7_emit_dd v2 b μ3 c2 d (by omega)) (fun _ μ4 ⟨d1, d2, d3, d4, d5⟩ => ev_row (fun m => tX4_readFact_119 _ m b μ4 o _) (ev_ret ⟨xf_tr a1 (xf_tr c1 d1), d2, CDd_same c3 d3 d4 d5⟩)))
        rcases r1 with e | ⟨L, s2, g2⟩
        · obtain ⟨a1, a2, a3⟩ := hr
          exact ev_callP (sX4_takeComparison_dd b μ1 a3 d (by omega)) (fun v2 μ2 ⟨b1, b2⟩ => ded μ2 v2 e (xf_tr a1 (xf_fj b1)) (by rw [fj13 b1]; exact a2) b2)
        · obtain ⟨a1, a2, a3⟩ := hr
          have hl := a2.1
          obtain ⟨gg1, gg2, gg3⟩ := g1
          have hlp : cpR T n (.inr (L, s2, g2)) r2 = if tkS T n s2 g2 = 60 ∨ tkS T n s2 g2 = 62 ∨ tkS T n s2 g2 = 61 then suf (cmpY (tkS T n s2 g2)) (pre L r2) else .inl (1, s2) := rfl
          rw [hlp]
          by_cases cc : tkS T n s2 g2 = 60 ∨ tkS T n s2 g2 = 62 ∨ tkS T n s2 g2 = 61
          · rw [if_pos cc]
            refine ev_callP (sX4_takeComparison_ok hT b μ1 a3 cc d (by omega)) (fun v2 μ2 ⟨hv2, f2, l2⟩ => ?_)
            have hx := nx_in hT a3.2.2.2.2.2
            have hx2 := hx.2.2.1 (by
              have h3 : tkK T n s2 g2 = 3 := by
                by_cases q : tkK T n s2 g2 = 3
                · exact q
                · exfalso
                  have : tkS T n s2 g2 = -1 := by unfold tkS; rw [if_neg q]
                  omega
              exact (tkK3 hT a3.2.2.2.2.2 h3).1)
            refine ev_callP (h2 L s2 g2 rfl cc d (by omega) μ2 l2 (by rw [fj13 f2]; omega) (by rw [fj13 f2]; omega)) (fun _ μ3 hr3 => ?_)
            have gg := g2' L s2 g2 rfl
            rcases r2 with e | ⟨K, s3, g3⟩
            · exact ev_callP (sX7_emit_dd v2 b μ3 hr3.2.1 d (by omega)) (fun _ μ4 ⟨d1, d2, d3, d4, d5⟩ => ev_row (fun m => tX4_readFact_119 _ m b μ4 o _) (ev_ret ⟨xf_tr a1 (xf_tr (xf_fj f2) (xf_tr hr3.1 d1)), d2, CDd_same hr3.2.2 d3 d4 d5⟩))
            · obtain ⟨e1', e2', e3'⟩ := hr3
              have hl3 := e2'.1
              rw [fj13 f2] at hl3
              obtain ⟨hh1, hh2, hh3⟩ := gg
              refine ev_callP (sX7_emit v2 (cmpY (tkS T n s2 g2)) (by rw [hv2]; exact cmp_c) b μ3 (by omega) (by omega) d (by omega)) (fun _ μ4 ⟨d1, d2, d3, d4, d5⟩ => ev_row (fun m => tX4_readFact_119 _ m b μ4 o _) (ev_ret ⟨xf_tr a1 (xf_tr (xf_fj f2) (xf_tr e1' d1)), ?_, CLv_same e3' d3 d4 d5⟩))
              have := app_tr a2 (app_tr (app_fj (b := b) f2) (app_tr e2' d2))
              rw [List.nil_append, ← List.append_assoc] at this
              exact this
          · rw [if_neg cc]
            exact ev_callP (sX4_takeComparison_er b μ1 a3 cc d (by omega)) (fun v2 μ2 ⟨b1, b2⟩ => ded μ2 v2 (1, s2) (xf_tr a1 (xf_fj b1)) (by rw [fj13 b1]; omega) b2)
