/-! ===== a whole sum, in the reference ===== -/
def RPo (T : Int → Int) (n : Int) (ν0 : Nat → Int → Int) (c0 bs k : Int) (B : List Int) (o : Int) (C : List Int) (ν' : Nat → Int → Int) : CR → Prop
  | .inl e => RXb ν0 k ν' e
  | .inr (L, s', g') => RX T n ν0 c0 bs ν' s' g' B o (C ++ L)
theorem RX_base {T : Int → Int} {n : Int} {ν0 : Nat → Int → Int} {c0 bs bs' : Int} {ν : Nat → Int → Int} {s : Int} {g : Bool} {W : List Int} {o : Int} {C : List Int} (h : RX T n ν0 c0 bs ν s g W o C) : RX T n ν0 c0 bs' (m2 ν 96 48 bs') s g W o C := by
  obtain ⟨h1, h2, h3, h4, h5, h6, h7⟩ := h
  have hf : Fg [] [48] ν (m2 ν 96 48 bs') := fg_m96 fg_rfl (by decide)
  have k126 := hf.1 126 (by simp) (by decide)
  have k127 := hf.1 127 (by simp) (by decide)
  refine ⟨fg_tr h1 hf (by decide) (by decide), ?_, ⟨by rw [hf.2 43 (by decide)]; exact h3.1, fun i hi => by rw [k127]; exact h3.2 i hi⟩, by rw [hf.2 44 (by decide)]; exact h4, ⟨by rw [hf.2 41 (by decide)]; exact h5.1, fun i hi => by rw [k126]; exact h5.2 i hi⟩, fun x hx => by rw [k126]; exact h6 x hx, by rw [m2_at, if_pos rfl]⟩
  obtain ⟨a1, a2, a3, a4, a5, ⟨p0, p1, p2⟩, a6, a7⟩ := h2
  exact ⟨by rw [hf.2 5 (by decide)]; exact a1, by rw [hf.2 6 (by decide)]; exact a2, by rw [hf.2 3 (by decide)]; exact a3, fun i i0 i1 => by rw [hf.1 97 (by decide) (by decide)]; exact a4 i i0 i1, Rwrd_fg hf (by decide) a5, by rw [hf.2 2 (by decide)]; exact ⟨p0, p1, p2⟩, a6, by rw [hf.2 4 (by decide)]; exact a7⟩
theorem RXb_base {ν0 : Nat → Int → Int} {k : Int} {ν : Nat → Int → Int} {e : Int × Int} (h : RXb ν0 k ν e) (a : Int) : RXb ν0 k (m2 ν 96 48 a) e := by
  obtain ⟨h1, ⟨h2, h3, h4⟩, h5, h6⟩ := h
  refine ⟨fg_m96 h1 (by decide), ⟨by rw [m2_at, if_neg (by decide)]; exact h2, h3, by rw [m2_at, if_neg (by decide)]; exact h4⟩, fun x hx => by rw [m2_ne (by decide)]; exact h5 x hx, by rw [m2_at, if_neg (by decide)]; exact h6⟩
theorem sX10_sumsTold {b : Bool} {T : Int → Int} {n : Int} (hT : Tp T n) {o s : Int} {g : Bool} {r : CR} (hr : RLp b T n 2 0 o s g r) (hf : fn2 T n r) (hv' : ∀ L s' g', r = .inr (L, s', g') → s ≤ s' ∧ (L.length : Int) ≤ s' - s) {ν0 : Nat → Int → Int} {c0 bs : Int} (c00 : 0 ≤ c0) {B C : List Int} (htop : ¬ isOp (topW B)) (hb : (B.length : Int) + c0 + (C.length : Int) + 4 ≤ s) (ν : Nat → Int → Int) (h : RX T n ν0 c0 bs ν s g B o C) : ∀ D, 7 ≤ D → Cal D 119 [mP 96] b ν (fun _ ν' => RPo T n ν0 c0 bs 1 B o C ν' r) := fun D hD => by
  obtain ⟨d, rfl⟩ : ∃ d, D = d + 2 := ⟨D - 2, by omega⟩
  have hn1 := hT.2.1
  have h48 := h.2.2.2.2.2.2
  have h43 := h.2.2.1.1
  have hsn := h.2.1.2.2.2.2.2.2.1.2.1
  have hLM : LM b T n ν0 c0 (B.length : Int) B (-1) := fun o' Q hQ => lastM_no rfl hQ
  have hk := hr d ν0 c0 (B.length : Int) bs (fun _ ν' => RPo T n ν0 c0 bs 1 B o C ν' r) (by omega) c00 (Int.natCast_nonneg _) B C (-1) (Int.le_refl _) hLM (by rw [if_neg (by decide)]; exact htop)
  rw [show jL 0 = [] from rfl, List.append_nil] at hk
  have hA : AH d b T n ν0 c0 (B.length : Int) bs (fun _ ν' => RPo T n ν0 c0 bs 1 B o C ν' r) B o s g C := by
    rcases hq : r with e | ⟨L, s', g'⟩
    · rw [hq] at hk
      exact hk (fun ν' hb' => RXb_base hb' bs)
    · rw [hq] at hk
      have hff := hf L s' g' hq
      have hlen := hv' L s' g' hq
      refine hk (fun E Q hE hQ hb2 ν1 hr1 => ?_)
      have hQ' : ∀ q ∈ Q, isOp q := fun q hq => by have := hQ q hq; rw [if_neg (by decide)] at this; exact this
      have hl := hLM o Q hQ'
      have hs' := hr1.2.1.2.2.2.2.2.2.1.2.1
      have hlE : E.length + Q.length = L.length := by rw [← hE, List.length_append]
      have hbl : (B.length : Int) + (Q.length : Int) + c0 + ((C ++ E).length : Int) ≤ 1600 := by rw [List.length_append] at hb2 ⊢; rw [List.length_reverse] at hb2; omega
      refine g_fall (by omega) hT hl (by rw [List.length_append, List.length_reverse]; rw [List.length_append] at hbl; omega) (Or.inr ⟨by decide, by decide, by decide⟩) (fun ν2 hr2 => ?_) ν1 hr1
      refine g_none (by omega) hT hl (by rw [List.length_append, List.length_reverse]; rw [List.length_append] at hbl; omega) (fin2_of hff.1 hff.2) (fun q => by omega) (fun _ ν3 hr3 => T2_end (by omega) c00 rfl hr3 hbl (fun ν4 hr4 => ?_)) (fun q => absurd rfl q) ν2 hr2
      rw [List.append_assoc, hE] at hr4
      exact RX_base hr4
  refine cal_ev (fun r => call_X10_sumsTold (d + 1) b ν) (ev_row (fun m => tX10_sumsTold_0 _ m b ν) ?_)
  rw [h48, h43]
  have hr0 : RX T n ν0 c0 (B.length : Int) (m2 ν 96 48 (B.length : Int)) s g B o C := RX_base h
  exact st_head hr0.2.1.1 (hA hb _ hr0)
/-! ===== a fact without not and brackets ===== -/
def fcR (T : Int → Int) (n s : Int) (g : Bool) (r1 r2 : CR) : CR := if tkW T n s g = 19 then .inr ([18], nxS T n s, nxG T n s g) else cpR T n r1 r2
theorem sX10_fact {b : Bool} {T : Int → Int} {n : Int} (hT : Tp T n) {o s : Int} {g : Bool} {r1 r2 : CR} (h1 : tkW T n s g ≠ 19 → RLp b T n 2 0 o s g r1) (f1 : fn2 T n r1) (l1 : ∀ L s' g', r1 = .inr (L, s', g') → VC T n s' ∧ s ≤ s' ∧ (L.length : Int) ≤ s' - s) (h2 : ∀ L s2 g2, r1 = .inr (L, s2, g2) → (tkS T n s2 g2 = 60 ∨ tkS T n s2 g2 = 62 ∨ tkS T n s2 g2 = 61) → RLp b T n 2 0 o (nxS T n s2) (nxG T n s2 g2) r2) (f2 : fn2 T n r2) (l2 : ∀ L s2 g2, r1 = .inr (L, s2, g2) → ∀ L' s' g', r2 = .inr (L', s', g') → nxS T n s2 ≤ s' ∧ (L'.length : Int) ≤ s' - nxS T n s2) {ν0 : Nat → Int → Int} {c0 bs : Int} (c00 : 0 ≤ c0) {B C : List Int} (htop : ¬ isOp (topW B)) (hb : (B.length : Int) + c0 + (C.length : Int) + 4 ≤ s) (ν : Nat → Int → Int) (h : RX T n ν0 c0 bs ν s g B o C) : ∀ D, 8 ≤ D → Cal D 35 [mP 96] b ν (fun _ ν' => RPo T n ν0 c0 bs 2 B o C ν' (fcR T n s g r1 r2)) := fun D hD => by
  obtain ⟨d, rfl⟩ : ∃ d, D = d + 1 := ⟨D - 1, by omega⟩
  have hn1 := hT.2.1
  have hv := h.2.1.2.2.2.2.2.2.1
  have hx := nx_in hT hv
  have hs1 := hv.2.1
  refine cal_ev (fun r => call_X10_fact d b ν) (ev_row (fun m => tX10_fact_0 _ m b ν) (ev_callP (sX10_takes hT (j := 19) (by decide) b ν h.2.1 d (by omega)) (fun v ν1 ⟨fr1, hc⟩ => ?_)))
  unfold fcR
  rcases hc with ⟨c1, c2, c3⟩ | ⟨c1, c2, c3, c4⟩
  · have c1' : tkW T n s g = 19 := c1
    rw [if_pos c1']
    have hsn := (tkW_pos hT hv (by omega : 0 ≤ tkW T n s g)).2.1
    exact ev_neg (by show ¬ v = 0; omega) (ev_callP (sX10_code 18 b ν1 (RX_lex h (fgl fr1 (by decide)) c3) c00 (by omega) d (by omega)) (fun _ ν2 ⟨a1, a2⟩ => ev_ret a1))
  · have c1' : tkW T n s g ≠ 19 := c1
    rw [if_neg c1']
    have hr1 := RX_lex h (fgl fr1 (by decide)) c3
    refine ev_pos (show v = 0 from c2) (ev_callP (sX10_sumsTold hT (h1 c1') f1 (fun L s' g' q => (l1 L s' g' q).2) c00 htop hb ν1 hr1 d (by omega)) (fun _ ν2 hp => ?_))
    rcases hq : r1 with e | ⟨L, s2, g2⟩
    · rw [hq] at hp
      have hp' : RXb ν0 1 ν2 e := hp
      exact ev_neg (by show ¬ ν2 96 5 = 0; rw [hp'.2.1.1]; exact hp'.2.1.2.1) (ev_ret (RXb_up hp' (by decide)))
    · rw [hq] at hp
      have hp' : RX T n ν0 c0 bs ν2 s2 g2 B o (C ++ L) := hp
      obtain ⟨v2, le2, ll2⟩ := l1 L s2 g2 hq
      have hlp : cpR T n (.inr (L, s2, g2)) r2 = if tkS T n s2 g2 = 60 ∨ tkS T n s2 g2 = 62 ∨ tkS T n s2 g2 = 61 then suf (cmpY (tkS T n s2 g2)) (pre L r2) else .inl (1, s2) := rfl
      rw [hlp]
      refine ev_pos hp'.2.1.1 (ev_callP (sX10_look hT b ν2 hp'.2.1 d (by omega)) (fun w ν3 ⟨e3, f3, lk3, at3⟩ => ?_))
      have hr3 := RX_lex hp' (fgl f3 (by decide)) lk3
      have hbl : (B.length : Int) + c0 + ((C ++ L).length : Int) + 4 ≤ s2 := by rw [List.length_append]; omega
      by_cases cc : tkS T n s2 g2 = 60 ∨ tkS T n s2 g2 = 62 ∨ tkS T n s2 g2 = 61
      · rw [if_pos cc]
        have hk := tkS_k (c := tkS T n s2 g2) rfl (by omega)
        obtain ⟨hsn, hks⟩ := tkK3 hT v2 hk
        have hw : w = tkS T n s2 g2 := by rw [e3, byA_in v2.1 hsn]; unfold tkS; rw [if_pos hk]
        have hx2 := nx_in hT v2
        have hlt2 := hx2.2.2.1 hsn
        have hs0 := v2.1
        have go : Ev (fun m => mRun (mCallN d) kX10_fact m 63 [some (mP 96), some (mI w)] [] (SH, ν3, RHO b)) b (fun _ ν' => RPo T n ν0 c0 bs 2 B o C ν' (suf (cmpY (tkS T n s2 g2)) (pre L r2))) := by
          refine ev_row (fun m => tX10_fact_63 _ m b ν3 w) ?_
          rw [at3, w32_id (by omega) (by omega)]
          have hff : Fg [] [2, 4, 31] ν3 (m2 ν3 96 2 (s2 + 1)) := fg_m96 fg_rfl (by decide)
          have hr4 := RX_lex hr3 (fgl hff (by decide)) (RSv_next hT hr3.2.1 hff (by rw [m2_at, if_pos rfl, bhd_sign v2.1 hsn hks]) (Or.inr ⟨hk, by rw [m2_at, if_neg (by decide)]⟩))
          refine ev_callP (sX10_sumsTold hT (h2 L s2 g2 hq cc) f2 (l2 L s2 g2 hq) c00 htop (by omega) _ hr4 d (by omega)) (fun _ ν5 hp5 => ?_)
          have fin : ∀ y : Int, y = cmpY (tkS T n s2 g2) → Ev (fun m => mRun (mCallN d) kX10_fact m 102 [some (mP 96), some (mI w)] [mI y, mP 96] (SH, ν5, RHO b)) b (fun _ ν' => RPo T n ν0 c0 bs 2 B o C ν' (suf (cmpY (tkS T n s2 g2)) (pre L r2))) := fun y hy => by
            refine ev_row (fun m => tX10_fact_102 _ m b ν5 w y) ?_
            rcases hq2 : r2 with e | ⟨L', s', g'⟩
            · rw [hq2] at hp5
              have hp5' : RXb ν0 1 ν5 e := hp5
              exact ev_callP (sX10_code_bad y b ν5 hp5' (by decide) d (by omega)) (fun _ ν6 a6 => ev_ret a6)
            · rw [hq2] at hp5
              have hp5' : RX T n ν0 c0 bs ν5 s' g' B o (C ++ L ++ L') := hp5
              have hll := l2 L s2 g2 hq L' s' g' hq2
              have hs' := hp5'.2.1.2.2.2.2.2.2.1.2.1
              refine ev_callP (sX10_code y b ν5 hp5' c00 (by simp only [List.length_append] at *; omega) d (by omega)) (fun _ ν6 ⟨a1, a2⟩ => ev_ret ?_)
              show RX T n ν0 c0 bs ν6 s' g' B o (C ++ (L ++ L' ++ [cmpY (tkS T n s2 g2)]))
              rw [← hy]
              simp only [List.append_assoc] at a1 ⊢
              exact a1
          refine ev_br (fun k1 => fin 12 ?_) (fun k1 => ev_br (fun k2 => fin 13 ?_) (fun k2 => fin 14 ?_))
          · unfold cmpY; rw [← hw, if_pos k1]
          · unfold cmpY; rw [← hw, if_neg k1, if_pos k2]
          · unfold cmpY; rw [← hw, if_neg k1, if_neg k2]
        refine ev_br (fun _ => go) (fun k1 => ev_br (fun _ => go) (fun k2 => ev_pos ?_ go))
        have k1' : ¬ w = 60 := k1
        have k2' : ¬ w = 62 := k2
        show w = 61
        omega
      · rw [if_neg cc]
        have hne : ∀ c : Int, kdO c = 3 → tkS T n s2 g2 ≠ c → ¬ w = c := fun c hc hn q => hn ((tkS_by hT v2 hc).1 (by rw [← e3]; exact q))
        refine ev_neg (hne 60 (by decide) (by omega)) (ev_neg (hne 62 (by decide) (by omega)) (ev_neg (hne 61 (by decide) (by omega)) ?_))
        dsimp only
        rw [at3]
        exact ev_callP (sX10_fail 1 s2 (by decide) b ν3 lk3 d (by omega)) (fun _ ν4 ⟨f4, l4⟩ => ev_ret (RXb_up (RX_bad hT hr3 c00 hbl (fgl f4 (by decide)) l4) (by decide)))
theorem sX10_hasSquare {T : Int → Int} {n : Int} {ν0 : Nat → Int → Int} {c0 bs : Int} {s : Int} {g : Bool} {W : List Int} {o : Int} {C : List Int} (b : Bool) (ν : Nat → Int → Int) (h : RX T n ν0 c0 bs ν s g W o C) (hw : W.length ≤ 1600) : ∀ d, 1 ≤ d → mCallN d 55 [mP 96] (SH, ν, RHO b) = some (t01 ((25 : Int) ∈ W), SH, ν, RHO b) := deep fun d _ => by
  have h3 := h.2.2.1
  refine cal_eq (cal_ev (fun r => call_X10_hasSquare d b ν) (ev_row (fun q => tX10_hasSquare_0 _ q b ν) ?_))
  have lp : ∀ (k i : Nat), i + k = W.length → (∀ q : Nat, q < i → W.getD q 0 ≠ 25) → Ev (fun q => mRun (mCallN d) kX10_hasSquare q 2 [some (mP 96), some (mI (i : Int))] [] (SH, ν, RHO b)) b (fun v' μ2 => v' = t01 ((25 : Int) ∈ W) ∧ μ2 = ν) := by
    intro k
    induction k with
    | zero =>
      intro i hi hq
      refine ev_row (fun q => tX10_hasSquare_2 _ q b ν _) (ev_neg (by rw [h3.1]; omega) (ev_ret ⟨(t01_neg (fun hm => ?_)).symm, rfl⟩))
      obtain ⟨q, hq1, hq2⟩ := List.mem_iff_getElem.1 hm
      refine hq q (by omega) ?_
      rw [List.getD_eq_getElem?_getD, List.getElem?_eq_getElem hq1]
      exact hq2
    | succ k ih =>
      intro i hi hq
      have E : ∀ _ : True, w32 ((i : Int) + 1) = ((i + 1 : Nat) : Int) := fun _ => by rw [w32_id (by omega) (by omega)]; rfl
      refine ev_row (fun q => tX10_hasSquare_2 _ q b ν _) ?_
      rw [h3.1, h3.2 i (by omega), E trivial]
      refine ev_pos (by omega) (ev_if (by omega) (ev_br (fun e => ev_ret ⟨(t01_pos ?_).symm, rfl⟩) (fun e => ih (i + 1) (by omega) (fun q hq' => ?_))))
      · rw [← e]
        exact getD_mem W i (by omega)
      · by_cases c : q = i
        · rw [c]; exact e
        · exact hq q (by omega)
  exact lp W.length 0 (by omega) (fun q hq => absurd hq (by omega))
