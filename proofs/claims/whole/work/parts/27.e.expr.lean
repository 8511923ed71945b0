/-! ===== expressions: what reading one comes to ===== -/
abbrev CR : Type := Sum (Int × Int) (List Int × Int × Bool)
def pre (L : List Int) : CR → CR
  | .inl e => .inl e
  | .inr (K, s, g) => .inr (L ++ K, s, g)
def suf (y : Int) : CR → CR
  | .inl e => .inl e
  | .inr (K, s, g) => .inr (K ++ [y], s, g)
def sgR (T : Int → Int) (n c : Int) : CR → CR
  | .inl e => .inl e
  | .inr (K, s, g) => if tkS T n s g = c then .inr (K, nxS T n s, nxG T n s g) else .inl (1, s)
theorem sgR_ok {T : Int → Int} {n c : Int} {K : List Int} {s : Int} {g : Bool} (q : tkS T n s g = c) : sgR T n c (.inr (K, s, g)) = .inr (K, nxS T n s, nxG T n s g) := if_pos q
theorem sgR_no {T : Int → Int} {n c : Int} {K : List Int} {s : Int} {g : Bool} (q : ¬ tkS T n s g = c) : sgR T n c (.inr (K, s, g)) = .inl (1, s) := if_neg q
/-- where the class is behind reading -/
def CSt (b : Bool) (T : Int → Int) (n : Int) (μ0 μ : Nat → Int → Int) : CR → Prop
  | .inl e => Xf b μ0 μ ∧ 0 ≤ μ (tw (!b)) 13 ∧ CDd T n μ e
  | .inr (L, s, g) => Xf b μ0 μ ∧ App b μ0 μ L ∧ CLv T n μ s g
/-- how far it goes -/
def Gd (n s : Int) : CR → Prop
  | .inl _ => True
  | .inr (L, s', _) => s < s' ∧ s' ≤ n ∧ (L.length : Int) ≤ s' - s
def CSp (b : Bool) (T : Int → Int) (n : Int) (D z : Nat) (as : List mV) (s : Int) (g : Bool) (r : CR) : Prop := ∀ d, D ≤ d → ∀ μ, CLv T n μ s g → 0 ≤ μ (tw (!b)) 13 → μ (tw (!b)) 13 ≤ s → Cal d z as b μ (fun _ μ' => CSt b T n μ μ' r)
def CDp (b : Bool) (T : Int → Int) (n : Int) (D z : Nat) (as : List mV) : Prop := ∀ d, D ≤ d → ∀ μ e, CDd T n μ e → 0 ≤ μ (tw (!b)) 13 → Cal d z as b μ (fun _ μ' => Xf b μ μ' ∧ 0 ≤ μ' (tw (!b)) 13 ∧ CDd T n μ' e)
theorem cst_er {b : Bool} {T : Int → Int} {n : Int} {μ0 μ μ' : Nat → Int → Int} {e : Int × Int} (h : Xf b μ0 μ) (h2 : Fj rdJ μ μ') (h3 : CDd T n μ' e) (h4 : 0 ≤ μ (tw (!b)) 13) : CSt b T n μ0 μ' (.inl e) := ⟨xf_tr h (xf_fj h2), by
  rw [h2.1 (tw (!b)) (by have := tw_or (!b); simp; omega)]; exact h4, h3⟩
theorem fj13 {b : Bool} {μ μ' : Nat → Int → Int} (h2 : Fj rdJ μ μ') : μ' (tw (!b)) 13 = μ (tw (!b)) 13 := by
  rw [h2.1 (tw (!b)) (by have := tw_or (!b); simp; omega)]
/-! dead -/
theorem dd_brackets {b : Bool} {T : Int → Int} {n : Int} (o w : Int) : CDp b T n 4 166 [mP 1, mI o, mI w] := fun d hd μ e h h0 => by
  obtain ⟨d, rfl⟩ : ∃ d', d = d' + 1 := ⟨d - 1, by omega⟩
  refine cal_ev (fun r => call_X4_readBrackets d b μ o w) (ev_row (fun m => tX4_readBrackets_0 _ m b μ o w) (ev_neg (by rw [h.2.2.2.2.2.2.2]; decide) (ev_callP (sX4_fail_dead 1 _ b μ h d (by omega)) (fun _ μ1 ⟨h1, h2⟩ => ev_ret ⟨xf_fj h1, by show 0 ≤ μ1 (tw (!b)) 13; rw [fj13 h1]; exact h0, h2⟩))))
theorem dd_part {b : Bool} {T : Int → Int} {n : Int} (o : Int) : CDp b T n 6 171 [mP 1, mI o] := fun d hd μ e h h0 => by
  obtain ⟨d, rfl⟩ : ∃ d', d = d' + 1 := ⟨d - 1, by omega⟩
  refine cal_ev (fun r => call_X4_readPart d b μ o) (ev_row (fun m => tX4_readPart_0 _ m b μ o) ?_)
  rw [h.2.2.2.2.2.1, h.2.2.2.2.2.2.1]
  refine ev_neg (by decide) (ev_pos (by decide) (ev_row (fun m => tX4_readPart_67 _ m b μ o) ?_))
  rw [h.2.2.2.2.2.2.1]
  exact ev_neg (by decide) (ev_neg (by decide) (ev_callP (dd_brackets o 0 d (by omega) μ e h h0) (fun _ μ1 h1 => ev_row (fun m => tX4_readPart_129 _ m b μ1 o _) (ev_ret h1))))
theorem dd_chain {b : Bool} {T : Int → Int} {n : Int} (lv o : Int) (D z : Nat) (as : List mV) (hz : CDp b T n D z as) (hD : 1 ≤ D) (hlv : (lv = 1 ∧ z = 168 ∧ as = [mP 1, mI o]) ∨ (lv = 3 ∧ z = 171 ∧ as = [mP 1, mI o]) ∨ (lv ≠ 1 ∧ lv ≠ 3 ∧ z = 167 ∧ as = [mP 1, mI (w32 (lv + 1)), mI o])) : CDp b T n (D + 1) 167 [mP 1, mI lv, mI o] := fun d hd μ e h h0 => by
  obtain ⟨d, rfl⟩ : ∃ d', d = d' + 1 := ⟨d - 1, by omega⟩
  have rest : ∀ μ1 : Nat → Int → Int, Xf b μ μ1 → 0 ≤ μ1 (tw (!b)) 13 → CDd T n μ1 e → Ev (fun m => mRun (mCallN d) kX4_readChain m 47 [some (mP 1), some (mI lv), some (mI o), some (mI (-1)), some (mI 0)] [] (SH, μ1, RHO b)) b (fun _ μ' => Xf b μ μ' ∧ 0 ≤ μ' (tw (!b)) 13 ∧ CDd T n μ' e) := fun μ1 a1 a2 a3 => by
    refine ev_row (fun m => tX4_readChain_47 _ m b μ1 _ _ _ _) (ev_pos rfl (ev_row (fun m => tX4_readChain_60 _ m b μ1 _ _ _ _) (ev_call (sX4_nextJoint_dd lv b μ1 a3 d (by omega)) (ev_pos rfl (ev_ret ⟨a1, a2, a3⟩)))))
  refine cal_ev (fun r => call_X4_readChain d b μ lv o) (ev_row (fun m => tX4_readChain_0 _ m b μ lv o) (ev_row (fun m => tX4_readChain_5 _ m b μ _ _ _ _) (ev_pos (by decide) ?_)))
  have hc := hz d (by omega) μ e h h0
  rcases hlv with ⟨l1, l2, l3⟩ | ⟨l1, l2, l3⟩ | ⟨l0, l1, l2, l3⟩
  · rw [l2, l3] at hc
    exact ev_pos l1 (ev_callP hc (fun _ μ1 ⟨a1, a2, a3⟩ => rest μ1 a1 a2 a3))
  · rw [l2, l3] at hc
    exact ev_neg (by omega) (ev_pos l1 (ev_callP hc (fun _ μ1 ⟨a1, a2, a3⟩ => rest μ1 a1 a2 a3)))
  · rw [l2, l3] at hc
    exact ev_neg l0 (ev_neg l1 (ev_callP hc (fun _ μ1 ⟨a1, a2, a3⟩ => rest μ1 a1 a2 a3)))
theorem dd_chain3 {b : Bool} {T : Int → Int} {n : Int} (o : Int) : CDp b T n 7 167 [mP 1, mI 3, mI o] := dd_chain 3 o 6 171 _ (dd_part o) (by decide) (Or.inr (Or.inl ⟨rfl, rfl, rfl⟩))
theorem dd_chain2 {b : Bool} {T : Int → Int} {n : Int} (o : Int) : CDp b T n 8 167 [mP 1, mI 2, mI o] := dd_chain 2 o 7 167 _ (dd_chain3 o) (by decide) (Or.inr (Or.inr ⟨by decide, by decide, rfl, rfl⟩))
theorem dd_fact {b : Bool} {T : Int → Int} {n : Int} (o : Int) : CDp b T n 9 168 [mP 1, mI o] := fun d hd μ e h h0 => by
  obtain ⟨d, rfl⟩ : ∃ d', d = d' + 1 := ⟨d - 1, by omega⟩
  refine cal_ev (fun r => call_X4_readFact d b μ o) (ev_row (fun m => tX4_readFact_0 _ m b μ o) ?_)
  rw [h.2.2.2.2.2.2.1, h.2.2.2.2.2.2.2]
  refine ev_neg (by decide) (ev_neg (by decide) (ev_neg (by decide) (ev_callP (dd_chain2 o d (by omega) μ e h h0) (fun _ μ1 ⟨a1, a2, a3⟩ => ev_callP (sX4_takeComparison_dd b μ1 a3 d (by omega)) (fun v2 μ2 ⟨b1, b2⟩ => ev_callP (dd_chain2 o d (by omega) μ2 e b2 (by rw [fj13 b1]; exact a2)) (fun _ μ3 ⟨c1, c2, c3⟩ => ev_callP (sX7_emit_dd v2 b μ3 c2 d (by omega)) (fun _ μ4 ⟨d1, d2, d3, d4, d5⟩ => ev_row (fun m => tX4_readFact_119 _ m b μ4 o _) (ev_ret ⟨xf_tr a1 (xf_tr (xf_fj b1) (xf_tr c1 d1)), d2, CDd_same c3 d3 d4 d5⟩))))))))
theorem dd_chain1 {b : Bool} {T : Int → Int} {n : Int} (o : Int) : CDp b T n 10 167 [mP 1, mI 1, mI o] := dd_chain 1 o 9 168 _ (dd_fact o) (by decide) (Or.inl ⟨rfl, rfl, rfl⟩)
theorem dd_chain0 {b : Bool} {T : Int → Int} {n : Int} (o : Int) : CDp b T n 11 167 [mP 1, mI 0, mI o] := dd_chain 0 o 10 167 _ (dd_chain1 o) (by decide) (Or.inr (Or.inr ⟨by decide, by decide, rfl, rfl⟩))
/-! ===== the class's rules ===== -/
theorem cl_sign {b : Bool} {T : Int → Int} {n : Int} (hT : Tp T n) {d : Nat} (hd : 3 ≤ d) {c : Int} (hc : c ≠ -1) {μ0 μ : Nat → Int → Int} {r : CR} (h : CSt b T n μ0 μ r) (h0 : 0 ≤ μ0 (tw (!b)) 13) : Cal d 182 [mP 1, mI c] b μ (fun _ μ' => CSt b T n μ0 μ' (sgR T n c r)) := by
  rcases r with e | ⟨L, s, g⟩
  · obtain ⟨h1, h2, h3⟩ := h
    exact cal_mono (sX4_takeSign_dd c hc b μ h3 d hd) (fun _ μ' ⟨a1, a2⟩ => cst_er h1 a1 a2 h2)
  · obtain ⟨h1, h2, h3⟩ := h
    by_cases q : tkS T n s g = c
    · rw [sgR_ok q]
      refine cal_mono (sX4_takeSign_ok hT c b μ h3 q d hd) (fun _ μ' ⟨a1, a2⟩ => ⟨xf_tr h1 (xf_fj a1), ?_, a2⟩)
      have := app_tr h2 (app_fj (b := b) a1)
      rwa [List.append_nil] at this
    · rw [sgR_no q]
      exact cal_mono (sX4_takeSign_er c b μ h3 q d hd) (fun _ μ' ⟨a1, a2⟩ => cst_er h1 a1 a2 (by have := h2.1; omega))
/-- the bracket's result: a sum, or two -/
def br1 (T : Int → Int) (n o s : Int) (g : Bool) (r1 : CR) : CR := if tkS T n s g = 40 then (if o < 6 then sgR T n 41 r1 else .inl (4, s)) else .inl (1, s)
def sq2 (r1 r2 : CR) : CR := match r1 with
  | .inl e => .inl e
  | .inr (L, _, _) => pre L r2
def br2 (T : Int → Int) (n o s : Int) (g : Bool) (r1 r2 : CR) : CR := if tkS T n s g = 40 then (if o < 6 then sgR T n 41 (sq2 (sgR T n 44 r1) r2) else .inl (4, s)) else .inl (1, s)
theorem cl_br {b : Bool} {T : Int → Int} {n : Int} (hT : Tp T n) {D : Nat} (hD : 8 ≤ D) {o s : Int} {g : Bool} (o0 : 0 ≤ o) (o6 : o ≤ 6) (two : Int) (r1 r2 : CR) (h1 : tkS T n s g = 40 → o < 6 → CSp b T n D 167 [mP 1, mI 2, mI (o + 1)] (nxS T n s) (nxG T n s g) r1) (g1 : Gd n (nxS T n s) r1) (h2 : two ≠ 0 → o < 6 → ∀ L s2 g2, r1 = .inr (L, s2, g2) → tkS T n s2 g2 = 44 → CSp b T n D 167 [mP 1, mI 2, mI (o + 1)] (nxS T n s2) (nxG T n s2 g2) r2) : CSp b T n (D + 1) 166 [mP 1, mI o, mI two] s g (if two = 0 then br1 T n o s g r1 else br2 T n o s g r1 r2) := fun d hd μ h h0 hs => by
  obtain ⟨d, rfl⟩ : ∃ d', d = d' + 1 := ⟨d - 1, by omega⟩
  have t6 := h.2.2.2.2.1.2.2.1
  have t7 := h.2.2.2.2.1.2.2.2.1
  have hv := h.2.2.2.2.2
  have hvn := nx_in hT hv
  have fin : ∀ (μ1 : Nat → Int → Int) (r : CR), CSt b T n μ μ1 r → Ev (fun m => mRun (mCallN d) kX4_readBrackets m 53 [some (mP 1), some (mI o), some (mI two)] [] (SH, μ1, RHO b)) b (fun _ μ' => CSt b T n μ μ' (sgR T n 41 r)) := fun μ1 r hr => ev_row (fun m => tX4_readBrackets_53 _ m b μ1 o two) (ev_callP (cl_sign hT (by omega) (by decide) hr h0) (fun _ μ2 h2 => ev_row (fun m => tX4_readBrackets_59 _ m b μ2 o two) (ev_ret h2)))
  refine cal_ev (fun r => call_X4_readBrackets d b μ o two) (ev_row (fun m => tX4_readBrackets_0 _ m b μ o two) ?_)
  rw [t6, t7]
  unfold br1 br2
  by_cases c : tkS T n s g = 40
  · rw [if_pos c, if_pos c]
    refine ev_pos c ?_
    by_cases c2 : o < 6
    · rw [if_pos c2, if_pos c2]
      refine ev_callP (sX4_takeOpening_ok hT o c2 b μ h d (by omega)) (fun v μ1 ⟨hv1, f1, l1⟩ => ev_neg (by show ¬ v = 0; omega) ?_)
      have e1 : w32 (o + 1) = o + 1 := w32_id (by omega) (by omega)
      dsimp only
      rw [e1]
      refine ev_callP (h1 c c2 d (by omega) μ1 l1 (by rw [fj13 f1]; exact h0) (by rw [fj13 f1]; omega)) (fun _ μ2 hr => ?_)
      have hr' : CSt b T n μ μ2 r1 := by
        rcases r1 with e | ⟨L, s2, g2⟩
        · exact ⟨xf_tr (xf_fj f1) hr.1, hr.2.1, hr.2.2⟩
        · exact ⟨xf_tr (xf_fj f1) hr.1, by have := app_tr (app_fj (b := b) f1) hr.2.1; rwa [List.nil_append] at this, hr.2.2⟩
      by_cases c3 : two = 0
      · rw [if_pos c3]
        exact ev_pos c3 (fin μ2 r1 hr')
      · rw [if_neg c3]
        refine ev_neg c3 (ev_callP (cl_sign hT (by omega) (by decide) hr' h0) (fun _ μ3 h3 => ?_))
        dsimp only
        rcases r1 with e | ⟨L, s2, g2⟩
        · obtain ⟨a1, a2, a3⟩ := h3
          exact ev_callP (dd_chain2 (o + 1) d (by omega) μ3 e a3 a2) (fun _ μ4 ⟨b1, b2, b3⟩ => fin μ4 (.inl e) ⟨xf_tr a1 b1, b2, b3⟩)
        · by_cases c4 : tkS T n s2 g2 = 44
          · rw [sgR_ok c4] at h3 ⊢
            obtain ⟨a1, a2, a3⟩ := h3
            have hl := a2.1
            obtain ⟨gg1, gg2, gg3⟩ := g1
            have hx := nx_in hT (hr'.2.2.2.2.2.2.2)
            refine ev_callP (h2 c3 c2 L s2 g2 rfl c4 d (by omega) μ3 a3 (by omega) (by omega)) (fun _ μ4 hr4 => ?_)
            refine fin μ4 (pre L r2) ?_
            rcases r2 with e | ⟨K, s3, g3⟩
            · exact ⟨xf_tr a1 hr4.1, hr4.2.1, hr4.2.2⟩
            · exact ⟨xf_tr a1 hr4.1, app_tr a2 hr4.2.1, hr4.2.2⟩
          · rw [sgR_no c4] at h3 ⊢
            obtain ⟨a1, a2, a3⟩ := h3
            exact ev_callP (dd_chain2 (o + 1) d (by omega) μ3 _ a3 a2) (fun _ μ4 ⟨b1, b2, b3⟩ => fin μ4 (.inl (1, s2)) ⟨xf_tr a1 b1, b2, b3⟩)
    · rw [if_neg c2, if_neg c2]
      have : (if two = 0 then (Sum.inl (4, s) : CR) else .inl (4, s)) = .inl (4, s) := by split <;> rfl
      rw [this]
      exact ev_callP (sX4_takeOpening_er o c2 b μ h d (by omega)) (fun v μ1 ⟨hv1, f1, l1⟩ => ev_pos (show v = 0 from hv1) (ev_row (fun m => tX4_readBrackets_59 _ m b μ1 o two) (ev_ret (cst_er xf_rfl f1 l1 h0))))
  · rw [if_neg c, if_neg c]
    have : (if two = 0 then (Sum.inl (1, s) : CR) else .inl (1, s)) = .inl (1, s) := by split <;> rfl
    rw [this]
    exact ev_neg c (ev_callP (sX4_fail 1 s (by decide) b μ h d (by omega)) (fun _ μ1 ⟨f1, l1⟩ => ev_ret (cst_er xf_rfl f1 l1 h0)))
/-- a part -/
def prR (T : Int → Int) (n s : Int) (g : Bool) (rb rm : CR) : CR := if tkK T n s g = 2 then (if 4 < bhd T n s - s then .inl (1, s + 4) else .inr ([1000 + nmN T n s], nxS T n s, nxG T n s g)) else if 11 ≤ tkW T n s g ∧ tkW T n s g ≤ 15 then .inr ([tkW T n s g - 4], nxS T n s, nxG T n s g) else if tkW T n s g = 20 then suf 5 rm else if tkW T n s g = 21 then suf 6 rm else rb
theorem tkW_pos {T : Int → Int} {n s : Int} {g : Bool} (hT : Tp T n) (hv : VC T n s) (h : 0 ≤ tkW T n s g) : tkK T n s g = 1 ∧ s < n ∧ tkW T n s g < 22 ∧ tkW T n s g = owN T n s := by
  unfold tkW at *
  by_cases c : tkK T n s g = 1
  · rw [if_pos c] at h ⊢
    refine ⟨c, (tkK1 hT hv c).1, ?_, rfl⟩
    rcases owN_or T n s with ⟨q, -⟩ | ⟨i, hi, q, -⟩
    · omega
    · omega
  · rw [if_neg c] at h; omega
theorem cl_part {b : Bool} {T : Int → Int} {n : Int} (hT : Tp T n) {D : Nat} (hD : 5 ≤ D) {o s : Int} {g : Bool} (rb rm : CR) (h1 : tkK T n s g ≠ 2 → ¬ (11 ≤ tkW T n s g ∧ tkW T n s g ≤ 15) → tkW T n s g ≠ 20 → tkW T n s g ≠ 21 → CSp b T n D 166 [mP 1, mI o, mI 0] s g rb) (h2 : tkW T n s g = 20 ∨ tkW T n s g = 21 → CSp b T n D 166 [mP 1, mI o, mI 1] (nxS T n s) (nxG T n s g) rm) (g2 : Gd n (nxS T n s) rm) : CSp b T n (D + 1) 171 [mP 1, mI o] s g (prR T n s g rb rm) := fun d hd μ h h0 hs => by
  obtain ⟨d, rfl⟩ : ∃ d', d = d' + 1 := ⟨d - 1, by omega⟩
  obtain ⟨m2', m3, mf, mp, ⟨t4, t5, t6, t7, t8⟩, hv⟩ := h
  have h : CLv T n μ s g := ⟨m2', m3, mf, mp, ⟨t4, t5, t6, t7, t8⟩, hv⟩
  have hn1 := hT.2.1
  have hvn := nx_in hT hv
  refine cal_ev (fun r => call_X4_readPart d b μ o) (ev_row (fun m => tX4_readPart_0 _ m b μ o) ?_)
  rw [t4, t5]
  unfold prR
  by_cases c : tkK T n s g = 2
  · rw [if_pos c]
    refine ev_pos c ?_
    obtain ⟨k1, k2, -⟩ := tkK2 hT hv c
    by_cases c2 : 4 < bhd T n s - s
    · rw [if_pos c2]
      refine ev_callP (sX4_takeNumber_er hT 0 9999 b μ h (Or.inr (Or.inl ⟨c, c2, rfl⟩)) d (by omega)) (fun v μ1 ⟨hv1, f1, l1⟩ => ?_)
      refine ev_callP (sX7_emit_dd v b μ1 (by rw [fj13 f1]; exact h0) d (by omega)) (fun _ μ2 ⟨d1, d2, d3, d4, d5⟩ => ev_row (fun m => tX4_readPart_129 _ m b μ2 o _) (ev_ret ⟨xf_tr (xf_fj f1) d1, d2, CDd_same l1 d3 d4 d5⟩))
    · rw [if_neg c2]
      have hnm := nmN_in hv.1 k1 k2 (by omega)
      refine ev_callP (sX4_takeNumber_ok hT 0 9999 b μ h c (by omega) hnm.1 hnm.2 d (by omega)) (fun v μ1 ⟨hv1, f1, l1⟩ => ?_)
      refine ev_callP (sX7_emit v (1000 + nmN T n s) (by rw [hv1]; unfold cOf; rw [if_pos (by omega)]; omega) b μ1 (by rw [fj13 f1]; exact h0) (by rw [fj13 f1]; omega) d (by omega)) (fun _ μ2 ⟨d1, d2, d3, d4, d5⟩ => ev_row (fun m => tX4_readPart_129 _ m b μ2 o _) (ev_ret ⟨xf_tr (xf_fj f1) d1, ?_, CLv_same l1 d3 d4 d5⟩))
      have := app_tr (app_fj (b := b) f1) d2
      rwa [List.nil_append] at this
  · rw [if_neg c]
    refine ev_neg c ?_
    have p67 : ¬ (11 ≤ tkW T n s g ∧ tkW T n s g ≤ 15) → Ev (fun m => mRun (mCallN d) kX4_readPart m 67 [some (mP 1), some (mI o), none] [] (SH, μ, RHO b)) b (fun _ μ' => CSt b T n μ μ' (if tkW T n s g = 20 then suf 5 rm else if tkW T n s g = 21 then suf 6 rm else rb)) := fun cw => by
      have mm : ∀ v y : Int, v = cOf y → (tkW T n s g = 20 ∨ tkW T n s g = 21) → Ev (fun m => mRun (mCallN d) kX4_readPart m 101 [some (mP 1), some (mI o), none] [mI v] (SH, μ, RHO b)) b (fun _ μ' => CSt b T n μ μ' (suf y rm)) := fun v y hy hw => by
        refine ev_row (fun m => tX4_readPart_101 _ m b μ o v) (ev_callP (sX4_take hT b μ h d (by omega)) (fun _ μ1 ⟨f1, l1⟩ => ev_callP (h2 hw d (by omega) μ1 l1 (by rw [fj13 f1]; exact h0) (by rw [fj13 f1]; omega)) (fun _ μ2 hr => ?_)))
        rcases rm with e | ⟨L, s2, g2⟩
        · refine ev_callP (sX7_emit_dd v b μ2 hr.2.1 d (by omega)) (fun _ μ3 ⟨d1, d2, d3, d4, d5⟩ => ev_row (fun m => tX4_readPart_129 _ m b μ3 o _) (ev_ret ⟨xf_tr (xf_fj f1) (xf_tr hr.1 d1), d2, CDd_same hr.2.2 d3 d4 d5⟩))
        · obtain ⟨a1, a2, a3⟩ := hr
          have hl := a2.1
          rw [fj13 f1] at hl
          obtain ⟨gg1, gg2, gg3⟩ := g2
          have hsn := (tkW_pos hT hv (by omega : 0 ≤ tkW T n s g)).2.1
          have := hvn.2.2.1 hsn
          refine ev_callP (sX7_emit v y hy b μ2 (by omega) (by omega) d (by omega)) (fun _ μ3 ⟨d1, d2, d3, d4, d5⟩ => ev_row (fun m => tX4_readPart_129 _ m b μ3 o _) (ev_ret ⟨xf_tr (xf_fj f1) (xf_tr a1 d1), ?_, CLv_same a3 d3 d4 d5⟩))
          have := app_tr (app_fj (b := b) f1) (app_tr a2 d2)
          rwa [List.nil_append] at this
      refine ev_row (fun m => tX4_readPart_67 _ m b μ o) ?_
      rw [t5]
      refine ev_br (fun e => ?_) (fun e => ev_br (fun e2 => ?_) (fun e2 => ?_))
      · rw [if_pos e]
        refine ev_row (fun m => tX4_readPart_85 _ m b μ o) ?_
        rw [t5]
        exact ev_pos e (mm _ 5 rfl (Or.inl e))
      · rw [if_neg e, if_pos e2]
        refine ev_row (fun m => tX4_readPart_85 _ m b μ o) ?_
        rw [t5]
        exact ev_neg e (mm _ 6 rfl (Or.inr e2))
      · rw [if_neg e, if_neg e2]
        exact ev_callP (h1 c cw e e2 d (by omega) μ h h0 hs) (fun _ μ1 hr => ev_row (fun m => tX4_readPart_129 _ m b μ1 o _) (ev_ret hr))
    by_cases cw : 11 ≤ tkW T n s g ∧ tkW T n s g ≤ 15
    · rw [if_pos cw]
      have hsn := (tkW_pos hT hv (by omega : 0 ≤ tkW T n s g)).2.1
      refine ev_neg (by omega) (ev_neg (by omega) ?_)
      rw [show w32 (-1 - w32 (tkW T n s g - 11)) = 10 - tkW T n s g from by rw [show w32 (tkW T n s g - 11) = tkW T n s g - 11 from w32_id (by omega) (by omega), w32_id (by omega) (by omega)]; omega]
      refine ev_callP (sX7_emit _ (tkW T n s g - 4) (by unfold cOf; rw [if_neg (by omega), if_neg (by omega), if_neg (by omega), if_neg (by omega), if_neg (by omega), if_neg (by omega), if_pos (by omega)]; omega) b μ h0 (by omega) d (by omega)) (fun _ μ1 ⟨d1, d2, d3, d4, d5⟩ => ev_callP (sX4_take hT b μ1 (CLv_same h d3 d4 d5) d (by omega)) (fun _ μ2 ⟨f2, l2⟩ => ev_row (fun m => tX4_readPart_129 _ m b μ2 o _) (ev_ret ⟨xf_tr d1 (xf_fj f2), ?_, l2⟩)))
      have := app_tr d2 (app_fj (b := b) f2)
      rwa [List.append_nil] at this
    · rw [if_neg cw]
      exact ev_br (fun _ => p67 cw) (fun e => ev_br (fun _ => p67 cw) (fun e2 => absurd (by omega) cw))
