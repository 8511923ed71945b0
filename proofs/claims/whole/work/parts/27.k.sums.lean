/-! ===== sums, in the reference: what goes on behind each step ===== -/
section
variable (d : Nat) (b : Bool) (T : Int → Int) (n : Int) (ν0 : Nat → Int → Int) (c0 bs was : Int) (QS : Int → (Nat → Int → Int) → Prop)
def T1 (ν' : Nat → Int → Int) : Prop := Ev (fun n => mBr ((ν' 96 5 : Int) = 0) (mOptR (mCallN (d + 1) 51 [mP 96] (SH, ν', RHO b)) (fun x2 => mBr ((x2.1 : Int) = 0) (mRun (mCallN (d + 1)) kX10_sumsTold n 48 [some (mP 96), some (mI was), some (mI 1)] [] (SH, x2.2.2.1, RHO b)) (mRun (mCallN (d + 1)) kX10_sumsTold n 49 [some (mP 96), some (mI was), some (mI 1)] [mI 1] (SH, x2.2.2.1, RHO b)))) (mRun (mCallN (d + 1)) kX10_sumsTold n 48 [some (mP 96), some (mI was), some (mI 1)] [] (SH, ν', RHO b))) b QS
def T2 (v : Int) (ν' : Nat → Int → Int) : Prop := Ev (fun n => mBr ((v : Int) = 0) (mRun (mCallN (d + 1)) kX10_sumsTold n 48 [some (mP 96), some (mI was), some (mI 1)] [] (SH, ν', RHO b)) (mRun (mCallN (d + 1)) kX10_sumsTold n 49 [some (mP 96), some (mI was), some (mI 1)] [mI 1] (SH, ν', RHO b))) b QS
def HH (ν : Nat → Int → Int) : Prop := ∀ v2 v3 v4 : Option mV, Ev (fun n => mRun (mCallN d) kX10_onePart n 2 [some (mP 96), some (mI 1), v2, v3, v4] [] (SH, ν, RHO b)) b (fun _ ν' => T1 d b was QS ν')
def GG (ν : Nat → Int → Int) : Prop := Ev (fun n => mRun (mCallN d) kX10_goesOn n 0 [some (mP 96), none] [] (SH, ν, RHO b)) b (fun v ν' => T2 d b was QS v ν')
def AH (W : List Int) (o s : Int) (g : Bool) (C : List Int) : Prop := (W.length : Int) + c0 + (C.length : Int) + 4 ≤ s → ∀ ν, RX T n ν0 c0 bs ν s g W o C → HH d b was QS ν
def AG (W : List Int) (o s : Int) (g : Bool) (C : List Int) : Prop := (W.length : Int) + c0 + (C.length : Int) + 4 ≤ s → ∀ ν, RX T n ν0 c0 bs ν s g W o C → GG d b was QS ν
def HB (e : Int × Int) : Prop := ∀ ν', RXb ν0 1 ν' e → QS 0 (m2 ν' 96 48 was)
end
/-! ends of the sum's own loop -/
theorem st_end0 {d : Nat} {b : Bool} {was : Int} {QS : Int → (Nat → Int → Int) → Prop} {ν' : Nat → Int → Int} {e : Int × Int} (h : RBd ν' e) (hQ : QS 0 (m2 ν' 96 48 was)) : Ev (fun n => mRun (mCallN (d + 1)) kX10_sumsTold n 48 [some (mP 96), some (mI was), some (mI 1)] [] (SH, ν', RHO b)) b QS := by
  refine ev_row (fun m => tX10_sumsTold_48 _ m b ν' _ _) (ev_row (fun m => tX10_sumsTold_49 _ m b ν' _ _ _) (ev_row (fun m => tX10_sumsTold_15 _ m b ν' _ _) (ev_pos rfl (ev_row (fun m => tX10_sumsTold_53 _ m b ν' _ _) (ev_neg (by rw [h.1]; exact h.2.1) (ev_row (fun m => tX10_sumsTold_78 _ m b ν' _ _) (ev_ret hQ)))))))
theorem T1_bad {d : Nat} {b : Bool} {was : Int} {QS : Int → (Nat → Int → Int) → Prop} {ν' : Nat → Int → Int} {e : Int × Int} (h : RBd ν' e) (hQ : QS 0 (m2 ν' 96 48 was)) : T1 d b was QS ν' := ev_neg (by rw [h.1]; exact h.2.1) (st_end0 h hQ)
theorem T2_bad {d : Nat} {b : Bool} {was : Int} {QS : Int → (Nat → Int → Int) → Prop} {ν' : Nat → Int → Int} {e : Int × Int} (h : RBd ν' e) (hQ : QS 0 (m2 ν' 96 48 was)) : T2 d b was QS 0 ν' := ev_pos rfl (st_end0 h hQ)
theorem T1_ok {d : Nat} {b : Bool} {was : Int} {QS : Int → (Nat → Int → Int) → Prop} {ν' : Nat → Int → Int} (h : ν' 96 5 = 0) (hg : GG d b was QS ν') : T1 d b was QS ν' := ev_pos h (ev_callP (cal_ev (fun r => call_X10_goesOn d b ν') hg) (fun _ _ h2 => h2))
theorem st_head {d : Nat} {b : Bool} {was : Int} {QS : Int → (Nat → Int → Int) → Prop} {ν' : Nat → Int → Int} (h : ν' 96 5 = 0) (hh : HH d b was QS ν') : Ev (fun n => mRun (mCallN (d + 1)) kX10_sumsTold n 15 [some (mP 96), some (mI was), some (mI 1)] [] (SH, ν', RHO b)) b QS := ev_row (fun m => tX10_sumsTold_15 _ m b ν' _ _) (ev_neg (by decide) (ev_pos h (ev_callP (cal_ev (fun r => call_X10_onePart d b ν') (ev_row (fun m => tX10_onePart_0 _ m b ν') (hh none none none))) (fun _ _ h2 => h2))))
theorem T2_1 {d : Nat} {b : Bool} {was : Int} {QS : Int → (Nat → Int → Int) → Prop} {ν' : Nat → Int → Int} (h : ν' 96 5 = 0) (hh : HH d b was QS ν') : T2 d b was QS 1 ν' := ev_neg (by decide) (ev_row (fun m => tX10_sumsTold_49 _ m b ν' _ _ _) (st_head h hh))
theorem T2_end {d : Nat} (hd : 1 ≤ d) {b : Bool} {T : Int → Int} {n : Int} {ν0 : Nat → Int → Int} {c0 bs was : Int} {QS : Int → (Nat → Int → Int) → Prop} (c00 : 0 ≤ c0) {B : List Int} (hB : bs = (B.length : Int)) {s o : Int} {g : Bool} {Q C : List Int} {ν' : Nat → Int → Int} (h : RX T n ν0 c0 bs ν' s g (B ++ Q.reverse) o C) (hw : (B.length : Int) + (Q.length : Int) + c0 + (C.length : Int) ≤ 1600) (hQ : ∀ ν'', RX T n ν0 c0 bs ν'' s g B o (C ++ Q) → QS 0 (m2 ν'' 96 48 was)) : T2 d b was QS 0 ν' := by
  have lp : ∀ (Q C : List Int) (ν' : Nat → Int → Int), RX T n ν0 c0 bs ν' s g (B ++ Q.reverse) o C → (B.length : Int) + (Q.length : Int) + c0 + (C.length : Int) ≤ 1600 → (∀ ν'', RX T n ν0 c0 bs ν'' s g B o (C ++ Q) → QS 0 (m2 ν'' 96 48 was)) → Ev (fun n => mRun (mCallN (d + 1)) kX10_sumsTold n 53 [some (mP 96), some (mI was), some (mI 0)] [] (SH, ν', RHO b)) b QS := by
    intro Q
    induction Q with
    | nil =>
      intro C ν' h hw hQ
      rw [show B ++ ([] : List Int).reverse = B by simp] at h
      have h3 := h.2.2.1
      have h48 := h.2.2.2.2.2.2
      refine ev_row (fun m => tX10_sumsTold_53 _ m b ν' _ _) (ev_pos h.2.1.1 (ev_neg (by rw [h48, h3.1]; omega) (ev_row (fun m => tX10_sumsTold_78 _ m b ν' _ _) (ev_ret (hQ ν' ?_)))))
      rw [List.append_nil]; exact h
    | cons q Q ih =>
      intro C ν' h hw hQ
      rw [rev_cons_app] at h
      have h3 := h.2.2.1
      have h48 := h.2.2.2.2.2.2
      rw [List.length_cons] at hw
      refine ev_row (fun m => tX10_sumsTold_53 _ m b ν' _ _) (ev_pos h.2.1.1 (ev_pos (by rw [h48, h3.1]; simp; omega) (ev_callP (sX10_drops b ν' h c00 (by rw [List.length_append, List.length_reverse]; omega) (d + 1) (by omega)) (fun _ ν2 ⟨a1, a2⟩ => ih (C ++ [q]) ν2 a1 (by rw [List.length_append]; show _ + ((C.length + 1 : Nat) : Int) ≤ 1600; omega) (fun ν'' h2 => hQ ν'' ?_)))))
      rw [List.append_assoc] at h2; exact h2
  exact ev_pos rfl (ev_row (fun m => tX10_sumsTold_48 _ m b ν' _ _) (ev_row (fun m => tX10_sumsTold_49 _ m b ν' _ _ _) (ev_row (fun m => tX10_sumsTold_15 _ m b ν' _ _) (ev_pos rfl (lp Q C ν' h hw hQ)))))
theorem RXb_at {ν0 : Nat → Int → Int} {k : Int} {ν : Nat → Int → Int} {e : Int × Int} (h : RXb ν0 k ν e) (a : Int) : RXb ν0 k (m2 ν 96 2 a) e := by
  obtain ⟨h1, ⟨h2, h3, h4⟩, h5, h6⟩ := h
  refine ⟨fg_m96 h1 (by decide), ⟨by rw [m2_at, if_neg (by decide)]; exact h2, h3, by rw [m2_at, if_neg (by decide)]; exact h4⟩, fun x hx => by rw [m2_ne (by decide)]; exact h5 x hx, by rw [m2_at, if_neg (by decide)]; exact h6⟩
theorem sX10_code_bad (y : Int) (b : Bool) {ν0 : Nat → Int → Int} {k : Int} (ν : Nat → Int → Int) {e : Int × Int} (h : RXb ν0 k ν e) (hk : k ≤ 3) : ∀ d, 1 ≤ d → Cal d 24 [mP 96, mI y] b ν (fun _ ν' => RXb ν0 (k + 1) ν' e) := deepC fun d _ => by
  obtain ⟨h1, ⟨h2, h3, h4⟩, h5, h6⟩ := h
  refine cal_ev (fun r => call_X10_code d b ν y) (ev_row (fun m => tX10_code_0 _ m b ν y) ?_)
  rw [show w32 (0 + ν 96 41) = ν 96 41 from by rw [w32_id (by omega) (by omega)]; omega]
  refine ev_if (by omega) (ev_ret ?_)
  rw [m2_ne (by decide), w32_id (by omega) (by omega)]
  refine ⟨fg_m96 (fg_m2 h1 (by decide) (by decide)) (by decide), ⟨by rw [m2_at, if_neg (by decide), m2_ne (by decide)]; exact h2, h3, by rw [m2_at, if_neg (by decide), m2_ne (by decide)]; exact h4⟩, fun x hx => by rw [m2_ne (by decide), m2_at, if_neg (by omega)]; exact h5 x hx, by rw [m2_at, if_pos rfl]; omega⟩
theorem hh_bad {d : Nat} {b : Bool} {was : Int} {QS : Int → (Nat → Int → Int) → Prop} {ν0 ν : Nat → Int → Int} {e : Int × Int} (hB : HB ν0 was QS e) {k : Int} (h : RXb ν0 k ν e) (hk : k ≤ 1) (v1 : Int) (v2 v3 v4 : Option mV) : Ev (fun n => mRun (mCallN d) kX10_onePart n 2 [some (mP 96), some (mI v1), v2, v3, v4] [] (SH, ν, RHO b)) b (fun _ ν' => T1 d b was QS ν') := by
  have hb := h.2.1
  have r146 : Ev (fun n => mRun (mCallN d) kX10_onePart n 146 [some (mP 96), some (mI v1), v2, v3, v4] [] (SH, ν, RHO b)) b (fun _ ν' => T1 d b was QS ν') := ev_row (fun m => tX10_onePart_146 _ m b ν v1 v2 v3 v4) (ev_neg (by rw [hb.1]; exact hb.2.1) (ev_ret (T1_bad hb (hB ν (RXb_up h hk)))))
  exact ev_row (fun m => tX10_onePart_2 _ m b ν v1 v2 v3 v4) (ev_br (fun _ => r146) (fun _ => ev_neg (by rw [hb.1]; exact hb.2.1) r146))
theorem fgl {J : List Int} {ν ν' : Nat → Int → Int} (h : Fg [] J ν ν') (hJ : ∀ a, a ∈ J → a ∈ lxJ) : Fg [] lxJ ν ν' := fg_tr fg_rfl h (by simp) hJ
/-! ahead of a part -/
theorem h_open {d : Nat} (hd : 5 ≤ d) {b : Bool} {T : Int → Int} {n : Int} (hT : Tp T n) {ν0 : Nat → Int → Int} {c0 bs was : Int} (c00 : 0 ≤ c0) {QS : Int → (Nat → Int → Int) → Prop} {W : List Int} {o s : Int} {g : Bool} {C : List Int} (o0 : 0 ≤ o) (ht : tkS T n s g = 40) (h : o < 6 → AH d b T n ν0 c0 bs was QS (W ++ [20]) (o + 1) (nxS T n s) (nxG T n s g) C) (hB : ¬ o < 6 → HB ν0 was QS (4, s)) (o6 : o ≤ 6) : AH d b T n ν0 c0 bs was QS W o s g C := fun hb ν hr v2 v3 v4 => by
  have hn1 := hT.2.1
  have hv := hr.2.1.2.2.2.2.2.2.1
  have hk := tkS_k ht (by decide)
  obtain ⟨hsn, hks⟩ := tkK3 hT hv hk
  have hbh := bhd_sign hv.1 hsn hks
  have hx := nx_in hT hv
  have hlt := hx.2.2.1 hsn
  have hs0 := hv.1
  refine ev_row (fun m => tX10_onePart_2 _ m b ν 1 v2 v3 v4) (ev_neg (by decide) (ev_pos hr.2.1.1 (ev_callP (sX10_look hT b ν hr.2.1 d (by omega)) (fun v ν1 ⟨e1, f1, l1, at1⟩ => ?_))))
  have hr1 := RX_lex hr (fgl f1 (by decide)) l1
  refine ev_pos (by show v = 40; rw [e1]; exact (tkS_by hT hv (by decide)).2 ht) ?_
  dsimp only
  rw [at1]
  by_cases c : o < 6
  · refine ev_callP (sX10_opens 20 s b ν1 hr1 (by omega) o0 c d (by omega)) (fun _ ν2 ⟨a1, a2⟩ => ?_)
    dsimp only
    rw [a2, at1, w32_id (by omega) (by omega)]
    have hf : Fg [] [2, 4, 31] ν2 (m2 ν2 96 2 (s + 1)) := fg_m96 fg_rfl (by decide)
    have hr3 := RX_lex a1 (fgl hf (by decide)) (RSv_next hT a1.2.1 hf (by rw [m2_at, if_pos rfl, hbh]) (Or.inr ⟨hk, by rw [m2_at, if_neg (by decide)]⟩))
    exact ev_row (fun m => tX10_onePart_143 _ m b _ 1 _ v3 v4) (h c (by rw [List.length_append]; show ((W.length + 1 : Nat) : Int) + _ + _ + 4 ≤ _; omega) _ hr3 _ _ _)
  · refine ev_callP (sX10_opens_bad 20 s b ν1 hr1 (by omega) d (by omega)) (fun _ ν2 ⟨a1, a2⟩ => ?_)
    have hxb := RX_bad hT hr1 c00 hb (fgl a1 (by decide)) a2
    exact ev_row (fun m => tX10_onePart_143 _ m b _ 1 _ v3 v4) (hh_bad (hB c) (RXb_at hxb _) (by decide) _ _ _ _)
theorem h_mm {d : Nat} (hd : 5 ≤ d) {b : Bool} {T : Int → Int} {n : Int} (hT : Tp T n) {ν0 : Nat → Int → Int} {c0 bs was : Int} (c00 : 0 ≤ c0) {QS : Int → (Nat → Int → Int) → Prop} {W : List Int} {o s : Int} {g : Bool} {C : List Int} (o0 : 0 ≤ o) (o6 : o ≤ 6) (ht : tkW T n s g = 20 ∨ tkW T n s g = 21) (h : tkS T n (nxS T n s) (nxG T n s g) = 40 → o < 6 → AH d b T n ν0 c0 bs was QS (W ++ [if tkW T n s g = 20 then 21 else 22]) (o + 1) (nxS T n (nxS T n s)) (nxG T n (nxS T n s) (nxG T n s g)) C) (hB : tkS T n (nxS T n s) (nxG T n s g) = 40 → ¬ o < 6 → HB ν0 was QS (4, nxS T n s)) (hB1 : tkS T n (nxS T n s) (nxG T n s g) ≠ 40 → HB ν0 was QS (1, nxS T n s)) : AH d b T n ν0 c0 bs was QS W o s g C := fun hb ν hr v2 v3 v4 => by
  have hn1 := hT.2.1
  have hv := hr.2.1.2.2.2.2.2.2.1
  obtain ⟨hk1, hsn, -, -⟩ := tkW_pos hT hv (by omega : 0 ≤ tkW T n s g)
  have hx := nx_in hT hv
  have hlt := hx.2.2.1 hsn
  have hs0 := hv.1
  have hns : tkS T n s g ≠ 40 := fun q => by have := tkS_k q (by decide); omega
  -- behind the word
  have beh : ∀ (v1 v2 v3 : Int) (v4 : Option mV) (ν3 : Nat → Int → Int), v1 = 1 → (v3 = if tkW T n s g = 20 then 1 else 0) → RX T n ν0 c0 bs ν3 (nxS T n s) (nxG T n s g) W o C → Ev (fun m => mRun (mCallN d) kX10_onePart m 90 [some (mP 96), some (mI v1), some (mI v2), some (mI v3), v4] [] (SH, ν3, RHO b)) b (fun _ ν' => T1 d b was QS ν') := fun v1 v2 v3 v4 ν3 hv1 hv3 hr3 => by
    subst hv1
    have hv' := hx.1
    refine ev_row (fun m => tX10_onePart_90 _ m b ν3 1 v2 v3 v4) (ev_callP (sX10_look hT b ν3 hr3.2.1 d (by omega)) (fun v ν4 ⟨e4, f4, l4, at4⟩ => ?_))
    have hr4 := RX_lex hr3 (fgl f4 (by decide)) l4
    by_cases c40 : tkS T n (nxS T n s) (nxG T n s g) = 40
    · refine ev_pos (by show v = 40; rw [e4]; exact (tkS_by hT hv' (by decide)).2 c40) ?_
      dsimp only
      rw [at4]
      refine ev_row (fun m => tX10_onePart_107 _ m b ν4 1 v2 v3 v4 _) (ev_neg (by omega) ?_)
      have r127 : ∀ mk : Int, (mk = if tkW T n s g = 20 then 21 else 22) → Ev (fun m => mRun (mCallN d) kX10_onePart m 127 [some (mP 96), some (mI 1), some (mI v2), some (mI v3), some (mI (nxS T n s))] [mI mk, mP 96] (SH, ν4, RHO b)) b (fun _ ν' => T1 d b was QS ν') := fun mk hmk => by
        refine ev_row (fun m => tX10_onePart_127 _ m b ν4 1 v2 v3 _ mk) ?_
        by_cases c : o < 6
        · refine ev_callP (sX10_opens mk _ b ν4 hr4 (by omega) o0 c d (by omega)) (fun _ ν5 ⟨a1, a2⟩ => ev_row (fun m => tX10_onePart_132 _ m b ν5 1 v2 v3 _) (ev_callP (sX10_asksSign hT 40 (by decide) b ν5 a1.2.1 d (by omega)) (fun _ ν6 ⟨f6, hc⟩ => ?_)))
          rcases hc with ⟨-, c2⟩ | ⟨c1, -⟩
          · have hx2 := nx_in hT hv'
            rw [hmk] at a1
            exact ev_row (fun m => tX10_onePart_143 _ m b ν6 1 _ _ _) (h c40 c (by rw [List.length_append]; show ((W.length + 1 : Nat) : Int) + _ + _ + 4 ≤ _; omega) ν6 (RX_lex a1 f6 c2) _ _ _)
          · exact absurd c40 c1
        · refine ev_callP (sX10_opens_bad mk _ b ν4 hr4 (by omega) d (by omega)) (fun _ ν5 ⟨a1, a2⟩ => ev_row (fun m => tX10_onePart_132 _ m b ν5 1 v2 v3 _) (ev_call (bd_asksSign 40 b ν5 a2 d (by omega)) (ev_row (fun m => tX10_onePart_143 _ m b ν5 1 _ _ _) (hh_bad (hB c40 c) (RX_bad hT hr4 c00 (by omega) (fgl a1 (by decide)) a2) (by decide) _ _ _ _))))
      refine ev_br (fun e => r127 22 ?_) (fun e => r127 21 ?_)
      · rw [hv3] at e
        by_cases q : tkW T n s g = 20
        · rw [if_pos q] at e; exact absurd e (by decide)
        · rw [if_neg q]
      · rw [hv3] at e
        by_cases q : tkW T n s g = 20
        · rw [if_pos q]
        · rw [if_neg q] at e; exact absurd rfl e
    · refine ev_neg (by show ¬ v = 40; rw [e4]; exact fun q => c40 ((tkS_by hT hv' (by decide)).1 q)) (ev_row (fun m => tX10_onePart_107 _ m b ν4 1 v2 v3 v4 _) (ev_pos rfl (ev_row (fun m => tX10_onePart_132 _ m b ν4 1 v2 v3 _) (ev_callP (sX10_asksSign hT 40 (by decide) b ν4 l4 d (by omega)) (fun _ ν6 ⟨f6, hc⟩ => ?_)))))
      rcases hc with ⟨c1, -⟩ | ⟨-, c2⟩
      · exact absurd c1 c40
      · exact ev_row (fun m => tX10_onePart_143 _ m b ν6 1 _ _ _) (hh_bad (hB1 c40) (RX_bad hT hr4 c00 (by omega) f6 c2) (by decide) _ _ _ _)
  -- the word
  have wrd : ∀ (v2 : Int) (v3 v4 : Option mV) (ν3 : Nat → Int → Int), RX T n ν0 c0 bs ν3 s g W o C → Ev (fun m => mRun (mCallN d) kX10_onePart m 69 [some (mP 96), some (mI 1), some (mI v2), v3, v4] [] (SH, ν3, RHO b)) b (fun _ ν' => T1 d b was QS ν') := fun v2 v3 v4 ν3 hr3 => by
    refine ev_row (fun m => tX10_onePart_69 _ m b ν3 1 v2 v3 v4) (ev_callP (sX10_takes hT (j := 20) (by decide) b ν3 hr3.2.1 d (by omega)) (fun v ν4 ⟨f4, hc⟩ => ?_))
    rcases hc with ⟨c1, c2, c3⟩ | ⟨c1, c2, c3, c4⟩
    · exact ev_neg (by show ¬ v = 0; omega) (beh 1 v2 v v4 ν4 rfl (by rw [if_pos (show tkW T n s g = 20 from c1)]; exact c2) (RX_lex hr3 (fgl f4 (by decide)) c3))
    · have h21 : tkW T n s g = 21 := ht.resolve_left c1
      refine ev_pos (show v = 0 from c2) (ev_callP (sX10_asks hT (j := 21) (by decide) b ν4 c3 d (by omega)) (fun _ ν5 ⟨f5, hc5⟩ => ?_))
      rcases hc5 with ⟨-, c6⟩ | ⟨c5, -⟩
      · exact beh 1 v2 v v4 ν5 rfl (by rw [if_neg (show ¬ tkW T n s g = 20 from c1)]; exact c2) (RX_lex (RX_lex hr3 (fgl f4 (by decide)) c3) f5 c6)
      · exact absurd h21 c5
  refine ev_row (fun m => tX10_onePart_2 _ m b ν 1 v2 v3 v4) (ev_neg (by decide) (ev_pos hr.2.1.1 (ev_callP (sX10_look hT b ν hr.2.1 d (by omega)) (fun v ν1 ⟨e1, f1, l1, at1⟩ => ?_))))
  have hr1 := RX_lex hr (fgl f1 (by decide)) l1
  refine ev_neg (by show ¬ v = 40; rw [e1]; exact fun q => hns ((tkS_by hT hv (by decide)).1 q)) (ev_callP (sX10_isHere hT (j := 20) (by decide) b ν1 l1 d (by omega)) (fun v' ν2 ⟨e2, f2, l2, at2⟩ => ?_))
  have hr2 := RX_lex hr1 (fgl f2 (by decide)) l2
  by_cases c20 : tkW T n s g = ((20 : Nat) : Int)
  · rw [t01_pos c20] at e2
    exact ev_neg (by show ¬ v' = 0; omega) (wrd _ _ _ ν2 hr2)
  · rw [t01_neg c20] at e2
    refine ev_pos (show v' = 0 from e2) (ev_callP (sX10_isHere hT (j := 21) (by decide) b ν2 l2 d (by omega)) (fun v'' ν3 ⟨e3, f3, l3, at3⟩ => ?_))
    rw [t01_pos (show tkW T n s g = ((21 : Nat) : Int) from ht.resolve_left c20)] at e3
    exact ev_neg (by show ¬ v'' = 0; omega) (wrd _ _ _ ν3 (RX_lex hr2 (fgl f3 (by decide)) l3))
/-- a number, a fact's word, or a fault -/
theorem h_atom {d : Nat} (hd : 5 ≤ d) {b : Bool} {T : Int → Int} {n : Int} (hT : Tp T n) {ν0 : Nat → Int → Int} {c0 bs was : Int} (c00 : 0 ≤ c0) {QS : Int → (Nat → Int → Int) → Prop} {W : List Int} {o s : Int} {g : Bool} {C : List Int} (hns : tkS T n s g ≠ 40) (h20 : tkW T n s g ≠ 20) (h21 : tkW T n s g ≠ 21) (hw : 11 ≤ tkW T n s g ∧ tkW T n s g ≤ 15 → AG d b T n ν0 c0 bs was QS W o (nxS T n s) (nxG T n s g) (C ++ [tkW T n s g - 4])) (hnum : tkK T n s g = 2 → bhd T n s - s ≤ 4 → AG d b T n ν0 c0 bs was QS W o (nxS T n s) (nxG T n s g) (C ++ [1000 + nmN T n s])) (hB : ¬ (11 ≤ tkW T n s g ∧ tkW T n s g ≤ 15) → ∀ e, nmE T n s g 0 9999 e → HB ν0 was QS e) : AH d b T n ν0 c0 bs was QS W o s g C := fun hb ν hr v2 v3 v4 => by
  have hn1 := hT.2.1
  have hv := hr.2.1.2.2.2.2.2.2.1
  have hx := nx_in hT hv
  have hs0 := hv.1
  have hs1 := hv.2.1
  -- the code
  have r258 : ∀ (v1 : Int) (y v2' : Int) (v3 v4 : Option mV) (ν3 : Nat → Int → Int), RX T n ν0 c0 bs ν3 (nxS T n s) (nxG T n s g) W o C → s < n → AG d b T n ν0 c0 bs was QS W o (nxS T n s) (nxG T n s g) (C ++ [y]) → Ev (fun m => mRun (mCallN d) kX10_onePart m 258 [some (mP 96), some (mI v1), some (mI v2'), v3, v4] [mI y, mP 96] (SH, ν3, RHO b)) b (fun _ ν' => T1 d b was QS ν') := fun v1 y v2' v3 v4 ν3 hr3 hsn hA => by
    have hlt := hx.2.2.1 hsn
    refine ev_row (fun m => tX10_onePart_258 _ m b ν3 v1 v2' v3 v4 y) (ev_callP (sX10_code y b ν3 hr3 c00 (by omega) d (by omega)) (fun _ ν4 ⟨a1, a2⟩ => ev_ret (T1_ok a1.2.1.1 (hA ?_ ν4 a1))))
    rw [List.length_append]; show _ + c0 + ((C.length + 1 : Nat) : Int) + 4 ≤ _; omega
  have r235 : ∀ (v1 : Int) (v2 v3 v4 : Option mV) (ν3 : Nat → Int → Int), RX T n ν0 c0 bs ν3 s g W o C → ¬ (11 ≤ tkW T n s g ∧ tkW T n s g ≤ 15) → Ev (fun m => mRun (mCallN d) kX10_onePart m 235 [some (mP 96), some (mI v1), v2, v3, v4] [mI (-1)] (SH, ν3, RHO b)) b (fun _ ν' => T1 d b was QS ν') := fun v1 v2 v3 v4 ν3 hr3 hnw => by
    refine ev_row (fun m => tX10_onePart_235 _ m b ν3 v1 v2 v3 v4 (-1)) (ev_pos rfl (ev_callP (sX10_number hT 0 9999 b ν3 hr3.2.1 d (by omega)) (fun v ν4 ⟨⟨v0, v9⟩, f4, hc⟩ => ?_)))
    dsimp only
    rw [w32_id (by omega) (by omega)]
    rcases hc with ⟨⟨k2, kl, -, -⟩, c2, c3⟩ | ⟨e, he, hbd⟩
    · rw [c2]
      exact r258 _ _ _ _ _ ν4 (RX_lex hr3 f4 c3) (tkK2 hT hv k2).1 (hnum k2 kl)
    · have hxb := RX_bad hT hr3 c00 hb f4 hbd
      exact ev_row (fun m => tX10_onePart_258 _ m b ν4 _ _ _ _ _) (ev_callP (sX10_code_bad _ b ν4 hxb (by decide) d (by omega)) (fun _ ν5 a5 => ev_ret (T1_bad a5.2.1 (hB hnw e he ν5 a5))))
  have r146 : ∀ (v2 v3 v4 : Option mV) (ν3 : Nat → Int → Int), RX T n ν0 c0 bs ν3 s g W o C → Ev (fun m => mRun (mCallN d) kX10_onePart m 146 [some (mP 96), some (mI 0), v2, v3, v4] [] (SH, ν3, RHO b)) b (fun _ ν' => T1 d b was QS ν') := fun v2 v3 v4 ν3 hr3 => by
    have rw' : ∀ (y : Int) (ν4 : Nat → Int → Int), y = tkW T n s g - 4 → (11 ≤ tkW T n s g ∧ tkW T n s g ≤ 15) → RX T n ν0 c0 bs ν4 (nxS T n s) (nxG T n s g) W o C → Ev (fun m => mRun (mCallN d) kX10_onePart m 235 [some (mP 96), some (mI 0), v2, v3, v4] [mI y] (SH, ν4, RHO b)) b (fun _ ν' => T1 d b was QS ν') := fun y ν4 hy hww hr4 => by
      refine ev_row (fun m => tX10_onePart_235 _ m b ν4 0 v2 v3 v4 y) (ev_neg (by omega) ?_)
      rw [hy]
      exact r258 _ _ _ _ _ ν4 hr4 (tkW_pos hT hv (by omega : 0 ≤ tkW T n s g)).2.1 (hw hww)
    refine ev_row (fun m => tX10_onePart_146 _ m b ν3 0 v2 v3 v4) (ev_pos hr3.2.1.1 ?_)
    refine ev_callP (sX10_takes hT (j := 11) (by decide) b ν3 hr3.2.1 d (by omega)) (fun w1 ν4 ⟨f4, hc4⟩ => ?_)
    rcases hc4 with ⟨c1, c2, c3⟩ | ⟨c1, c2, c3, c4⟩
    · have c1' : tkW T n s g = 11 := c1
      exact ev_neg (by show ¬ w1 = 0; omega) (rw' 7 ν4 (by omega) (by omega) (RX_lex hr3 (fgl f4 (by decide)) c3))
    have c1' : tkW T n s g ≠ 11 := c1
    have hr4 := RX_lex hr3 (fgl f4 (by decide)) c3
    refine ev_pos (show w1 = 0 from c2) (ev_callP (sX10_takes hT (j := 12) (by decide) b ν4 c3 d (by omega)) (fun w2 ν5 ⟨f5, hc5⟩ => ?_))
    rcases hc5 with ⟨d1, d2, d3⟩ | ⟨d1, d2, d3, d4⟩
    · have d1' : tkW T n s g = 12 := d1
      exact ev_neg (by show ¬ w2 = 0; omega) (rw' 8 ν5 (by omega) (by omega) (RX_lex hr4 (fgl f5 (by decide)) d3))
    have d1' : tkW T n s g ≠ 12 := d1
    have hr5 := RX_lex hr4 (fgl f5 (by decide)) d3
    refine ev_pos (show w2 = 0 from d2) (ev_callP (sX10_takes hT (j := 13) (by decide) b ν5 d3 d (by omega)) (fun w3 ν6 ⟨f6, hc6⟩ => ?_))
    rcases hc6 with ⟨e1, e2, e3⟩ | ⟨e1, e2, e3, e4⟩
    · have e1' : tkW T n s g = 13 := e1
      exact ev_neg (by show ¬ w3 = 0; omega) (rw' 9 ν6 (by omega) (by omega) (RX_lex hr5 (fgl f6 (by decide)) e3))
    have e1' : tkW T n s g ≠ 13 := e1
    have hr6 := RX_lex hr5 (fgl f6 (by decide)) e3
    refine ev_pos (show w3 = 0 from e2) (ev_callP (sX10_takes hT (j := 14) (by decide) b ν6 e3 d (by omega)) (fun w4 ν7 ⟨f7, hc7⟩ => ?_))
    rcases hc7 with ⟨g1, g2, g3⟩ | ⟨g1, g2, g3, g4⟩
    · have g1' : tkW T n s g = 14 := g1
      exact ev_neg (by show ¬ w4 = 0; omega) (rw' 10 ν7 (by omega) (by omega) (RX_lex hr6 (fgl f7 (by decide)) g3))
    have g1' : tkW T n s g ≠ 14 := g1
    have hr7 := RX_lex hr6 (fgl f7 (by decide)) g3
    refine ev_pos (show w4 = 0 from g2) (ev_callP (sX10_takes hT (j := 15) (by decide) b ν7 g3 d (by omega)) (fun w5 ν8 ⟨f8, hc8⟩ => ?_))
    rcases hc8 with ⟨i1, i2, i3⟩ | ⟨i1, i2, i3, i4⟩
    · have i1' : tkW T n s g = 15 := i1
      exact ev_neg (by show ¬ w5 = 0; omega) (rw' 11 ν8 (by omega) (by omega) (RX_lex hr7 (fgl f8 (by decide)) i3))
    have i1' : tkW T n s g ≠ 15 := i1
    exact ev_pos (show w5 = 0 from i2) (r235 0 v2 v3 v4 ν8 (RX_lex hr7 (fgl f8 (by decide)) i3) (by omega))
  refine ev_row (fun m => tX10_onePart_2 _ m b ν 1 v2 v3 v4) (ev_neg (by decide) (ev_pos hr.2.1.1 (ev_callP (sX10_look hT b ν hr.2.1 d (by omega)) (fun v ν1 ⟨e1, f1, l1, at1⟩ => ?_))))
  have hr1 := RX_lex hr (fgl f1 (by decide)) l1
  refine ev_neg (by show ¬ v = 40; rw [e1]; exact fun q => hns ((tkS_by hT hv (by decide)).1 q)) (ev_callP (sX10_isHere hT (j := 20) (by decide) b ν1 l1 d (by omega)) (fun v' ν2 ⟨e2, f2, l2, at2⟩ => ?_))
  have hr2 := RX_lex hr1 (fgl f2 (by decide)) l2
  rw [t01_neg (by exact h20)] at e2
  refine ev_pos (show v' = 0 from e2) (ev_callP (sX10_isHere hT (j := 21) (by decide) b ν2 l2 d (by omega)) (fun v'' ν3 ⟨e3, f3, l3, at3⟩ => ?_))
  rw [t01_neg (by exact h21)] at e3
  refine ev_pos (show v'' = 0 from e3) (ev_row (fun m => tX10_onePart_143 _ m b ν3 0 _ v3 v4) (ev_row (fun m => tX10_onePart_2 _ m b ν3 0 _ v3 v4) (ev_pos rfl (r146 _ _ _ ν3 (RX_lex hr2 (fgl f3 (by decide)) l3)))))
