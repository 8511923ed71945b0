/-! ===== tests, in the reference: what goes on behind each step ===== -/
section
variable (d : Nat) (b : Bool) (T : Int → Int) (n : Int) (ν0 : Nat → Int → Int) (c0 bs : Int) (QT : Int → (Nat → Int → Int) → Prop)
def U2 (c v : Int) (ν' : Nat → Int → Int) : Prop := Ev (fun n => mBr ((v : Int) = 0) (mRun (mCallN (d + 2)) kX10_test n 105 [some (mP 96), some (mI 1), some (mI c)] [] (SH, ν', RHO b)) (mRun (mCallN (d + 2)) kX10_test n 106 [some (mP 96), some (mI 1), some (mI c)] [mI 1] (SH, ν', RHO b))) b QT
def U1 (c : Int) (ν' : Nat → Int → Int) : Prop := Ev (fun n => mBr ((ν' 96 5 : Int) = 0) (mOptR (mCallN (d + 2) 52 [mP 96] (SH, ν', RHO b)) (fun x5 => mBr ((x5.1 : Int) = 0) (mRun (mCallN (d + 2)) kX10_test n 105 [some (mP 96), some (mI 1), some (mI c)] [] (SH, x5.2.2.1, RHO b)) (mRun (mCallN (d + 2)) kX10_test n 106 [some (mP 96), some (mI 1), some (mI c)] [mI 1] (SH, x5.2.2.1, RHO b)))) (mRun (mCallN (d + 2)) kX10_test n 105 [some (mP 96), some (mI 1), some (mI c)] [] (SH, ν', RHO b))) b QT
def GT (ν : Nat → Int → Int) : Prop := ∀ c, Ev (fun n => mRun (mCallN (d + 1)) kX10_goesOnTest n 0 [some (mP 96)] [] (SH, ν, RHO b)) b (fun v ν' => U2 d b QT c v ν')
def TDa (ν : Nat → Int → Int) : Prop := ∀ c, Ev (fun n => mRun (mCallN (d + 1)) kX10_dropsNots n 0 [some (mP 96)] [] (SH, ν, RHO b)) b (fun _ ν' => U1 d b QT c ν')
def TDb (ν : Nat → Int → Int) : Prop := ∀ c, Ev (fun n => mRun (mCallN d) kX10_dropsNots n 0 [some (mP 96)] [] (SH, ν, RHO b)) b (fun _ ν' => Ev (fun n => mRun (mCallN (d + 1)) kX10_goesOnTest n 0 [some (mP 96)] [] (SH, ν', RHO b)) b (fun v ν'' => U2 d b QT c v ν''))
def TH (ν : Nat → Int → Int) : Prop := ∀ v2 : Option mV, Ev (fun n => mRun (mCallN (d + 2)) kX10_test n 2 [some (mP 96), some (mI 1), v2] [] (SH, ν, RHO b)) b QT
def BH (V : List Int) (o s : Int) (g : Bool) (C : List Int) : Prop := (V.length : Int) + c0 + (C.length : Int) + 4 ≤ s → ∀ ν, RX T n ν0 c0 bs ν s g V o C → TH d b QT ν
def BT (V : List Int) (o s : Int) (g : Bool) (C : List Int) : Prop := (V.length : Int) + c0 + (C.length : Int) + 4 ≤ s → ∀ ν, RX T n ν0 c0 bs ν s g V o C → TDa d b QT ν ∧ TDb d b QT ν
def BG (V : List Int) (o s : Int) (g : Bool) (C : List Int) : Prop := (V.length : Int) + c0 + (C.length : Int) + 4 ≤ s → ∀ ν, RX T n ν0 c0 bs ν s g V o C → GT d b QT ν
def HBT (e : Int × Int) : Prop := ∀ ν', RXb ν0 2 ν' e → QT 0 ν'
end
theorem te_bad {d : Nat} {b : Bool} {QT : Int → (Nat → Int → Int) → Prop} {ν0 ν : Nat → Int → Int} {e : Int × Int} (hB : HBT ν0 QT e) {k : Int} (h : RXb ν0 k ν e) (hk : k ≤ 2) (v1 : Int) (v2 : Option mV) : Ev (fun n => mRun (mCallN (d + 2)) kX10_test n 2 [some (mP 96), some (mI v1), v2] [] (SH, ν, RHO b)) b QT := by
  have hb := h.2.1
  have r110 : Ev (fun n => mRun (mCallN (d + 2)) kX10_test n 110 [some (mP 96), some (mI v1), v2] [] (SH, ν, RHO b)) b QT := ev_row (fun m => tX10_test_110 _ m b ν v1 v2) (ev_neg (by rw [hb.1]; exact hb.2.1) (ev_row (fun m => tX10_test_131 _ m b ν v1 v2) (ev_ret (hB ν (RXb_up h hk)))))
  exact ev_row (fun m => tX10_test_2 _ m b ν v1 v2) (ev_br (fun _ => r110) (fun _ => ev_neg (by rw [hb.1]; exact hb.2.1) r110))
theorem te_105 {d : Nat} {b : Bool} {QT : Int → (Nat → Int → Int) → Prop} {ν0 ν : Nat → Int → Int} {e : Int × Int} (hB : HBT ν0 QT e) {k : Int} (h : RXb ν0 k ν e) (hk : k ≤ 2) (c : Int) : Ev (fun n => mRun (mCallN (d + 2)) kX10_test n 105 [some (mP 96), some (mI 1), some (mI c)] [] (SH, ν, RHO b)) b QT := ev_row (fun m => tX10_test_105 _ m b ν 1 c) (ev_row (fun m => tX10_test_106 _ m b ν 1 c 0) (te_bad hB h hk 0 _))
theorem U1_bad {d : Nat} {b : Bool} {QT : Int → (Nat → Int → Int) → Prop} {ν0 ν : Nat → Int → Int} {e : Int × Int} (hB : HBT ν0 QT e) {k : Int} (h : RXb ν0 k ν e) (hk : k ≤ 2) (c : Int) : U1 d b QT c ν := ev_neg (by rw [h.2.1.1]; exact h.2.1.2.1) (te_105 hB h hk c)
theorem U2_bad {d : Nat} {b : Bool} {QT : Int → (Nat → Int → Int) → Prop} {ν0 ν : Nat → Int → Int} {e : Int × Int} (hB : HBT ν0 QT e) {k : Int} (h : RXb ν0 k ν e) (hk : k ≤ 2) (c : Int) : U2 d b QT c 0 ν := ev_pos rfl (te_105 hB h hk c)
theorem U1_ok {d : Nat} {b : Bool} {QT : Int → (Nat → Int → Int) → Prop} {ν : Nat → Int → Int} (h : ν 96 5 = 0) (hg : GT d b QT ν) (c : Int) : U1 d b QT c ν := ev_pos h (ev_callP (cal_ev (fun r => call_X10_goesOnTest (d + 1) b ν) (hg c)) (fun _ _ h2 => h2))
theorem U2_1 {d : Nat} {b : Bool} {QT : Int → (Nat → Int → Int) → Prop} {ν : Nat → Int → Int} (hh : TH d b QT ν) (c : Int) : U2 d b QT c 1 ν := ev_neg (by decide) (ev_row (fun m => tX10_test_106 _ m b ν 1 c 1) (hh _))
theorem U2_end {d : Nat} {b : Bool} {T : Int → Int} {n : Int} {ν0 : Nat → Int → Int} {c0 bs : Int} {QT : Int → (Nat → Int → Int) → Prop} (c00 : 0 ≤ c0) {s o : Int} {g : Bool} {Q C : List Int} {ν' : Nat → Int → Int} (h : RX T n ν0 c0 bs ν' s g Q.reverse o C) (hw : (Q.length : Int) + c0 + (C.length : Int) ≤ 1600) (hQ : ∀ ν'', RX T n ν0 c0 bs ν'' s g [] o (C ++ Q) → QT 0 ν'') (c : Int) : U2 d b QT c 0 ν' := by
  have lp : ∀ (Q C : List Int) (ν' : Nat → Int → Int), RX T n ν0 c0 bs ν' s g Q.reverse o C → (Q.length : Int) + c0 + (C.length : Int) ≤ 1600 → (∀ ν'', RX T n ν0 c0 bs ν'' s g [] o (C ++ Q) → QT 0 ν'') → Ev (fun n => mRun (mCallN (d + 2)) kX10_test n 110 [some (mP 96), some (mI 0), some (mI c)] [] (SH, ν', RHO b)) b QT := by
    intro Q
    induction Q with
    | nil =>
      intro C ν' h hw hQ
      have h' : RX T n ν0 c0 bs ν' s g [] o C := h
      refine ev_row (fun m => tX10_test_110 _ m b ν' _ _) (ev_pos h.2.1.1 (ev_neg (by rw [h'.2.2.1.1]; simp) (ev_row (fun m => tX10_test_131 _ m b ν' _ _) (ev_ret (hQ ν' ?_)))))
      rw [List.append_nil]; exact h'
    | cons q Q ih =>
      intro C ν' h hw hQ
      rw [List.reverse_cons] at h
      rw [List.length_cons] at hw
      refine ev_row (fun m => tX10_test_110 _ m b ν' _ _) (ev_pos h.2.1.1 (ev_pos (by rw [h.2.2.1.1, List.length_append]; show (0 : Int) < ((Q.reverse.length + 1 : Nat) : Int); omega) (ev_callP (sX10_drops b ν' h c00 (by rw [List.length_reverse]; omega) (d + 2) (by omega)) (fun _ ν2 ⟨a1, a2⟩ => ih (C ++ [q]) ν2 a1 (by rw [List.length_append]; show _ + ((C.length + 1 : Nat) : Int) ≤ 1600; omega) (fun ν'' h2 => hQ ν'' ?_)))))
      rw [List.append_assoc] at h2; exact h2
  exact ev_pos rfl (ev_row (fun m => tX10_test_105 _ m b ν' 1 c) (ev_row (fun m => tX10_test_106 _ m b ν' 1 c 0) (ev_row (fun m => tX10_test_2 _ m b ν' 0 _) (ev_pos rfl (lp Q C ν' h hw hQ)))))
/-! ahead of a fact -/
theorem t_not {d : Nat} (hd : 3 ≤ d) {b : Bool} {T : Int → Int} {n : Int} (hT : Tp T n) {ν0 : Nat → Int → Int} {c0 bs : Int} (c00 : 0 ≤ c0) {QT : Int → (Nat → Int → Int) → Prop} {V : List Int} {o s : Int} {g : Bool} {C : List Int} (o0 : 0 ≤ o) (o6 : o ≤ 6) (ht : tkW T n s g = 18) (h : o < 6 → BH d b T n ν0 c0 bs QT (V ++ [17]) (o + 1) (nxS T n s) (nxG T n s g) C) (hB : ¬ o < 6 → HBT ν0 QT (4, s)) : BH d b T n ν0 c0 bs QT V o s g C := fun hb ν hr v2 => by
  have hn1 := hT.2.1
  have hv := hr.2.1.2.2.2.2.2.2.1
  obtain ⟨hk1, hsn, -, -⟩ := tkW_pos hT hv (by omega : 0 ≤ tkW T n s g)
  have hx := nx_in hT hv
  have hlt := hx.2.2.1 hsn
  have hns : tkS T n s g ≠ 91 := fun q => by have := tkS_k q (by decide); omega
  refine ev_row (fun m => tX10_test_2 _ m b ν 1 v2) (ev_neg (by decide) (ev_pos hr.2.1.1 (ev_callP (sX10_look hT b ν hr.2.1 (d + 2) (by omega)) (fun v ν1 ⟨e1, f1, l1, at1⟩ => ?_))))
  have hr1 := RX_lex hr (fgl f1 (by decide)) l1
  refine ev_neg (by show ¬ v = 91; rw [e1]; exact fun q => hns ((tkS_by hT hv (by decide)).1 q)) (ev_callP (sX10_isHere hT (j := 18) (by decide) b ν1 l1 (d + 2) (by omega)) (fun v' ν2 ⟨e2, f2, l2, at2⟩ => ?_))
  have hr2 := RX_lex hr1 (fgl f2 (by decide)) l2
  rw [t01_pos (show tkW T n s g = ((18 : Nat) : Int) from ht)] at e2
  refine ev_neg (by show ¬ v' = 0; omega) ?_
  dsimp only
  rw [at2]
  by_cases c : o < 6
  · refine ev_callP (sX10_opens 17 s b ν2 hr2 (by omega) o0 c (d + 2) (by omega)) (fun _ ν3 ⟨a1, a2⟩ => ev_callP (sX10_asks hT (j := 18) (by decide) b ν3 a1.2.1 (d + 2) (by omega)) (fun _ ν4 ⟨f4, hc⟩ => ?_))
    rcases hc with ⟨-, c2⟩ | ⟨c1, -⟩
    · exact h c (by rw [List.length_append]; show ((V.length + 1 : Nat) : Int) + _ + _ + 4 ≤ _; omega) ν4 (RX_lex a1 f4 c2) _
    · exact absurd ht c1
  · refine ev_callP (sX10_opens_bad 17 s b ν2 hr2 (by omega) (d + 2) (by omega)) (fun _ ν3 ⟨a1, a2⟩ => ev_call (bd_asks 116 b ν3 a2 (d + 2) (by omega)) (te_bad (hB c) (RX_bad hT hr2 c00 hb (fgl a1 (by decide)) a2) (by decide) _ _))
theorem t_sq {d : Nat} (hd : 3 ≤ d) {b : Bool} {T : Int → Int} {n : Int} (hT : Tp T n) {ν0 : Nat → Int → Int} {c0 bs : Int} (c00 : 0 ≤ c0) {QT : Int → (Nat → Int → Int) → Prop} {V : List Int} {o s : Int} {g : Bool} {C : List Int} (o0 : 0 ≤ o) (o6 : o ≤ 6) (ht : tkS T n s g = 91) (h : o < 6 → BH d b T n ν0 c0 bs QT (V ++ [25]) (o + 1) (nxS T n s) (nxG T n s g) C) (hB : ¬ o < 6 → HBT ν0 QT (4, s)) : BH d b T n ν0 c0 bs QT V o s g C := fun hb ν hr v2 => by
  have hn1 := hT.2.1
  have hv := hr.2.1.2.2.2.2.2.2.1
  have hk := tkS_k ht (by decide)
  obtain ⟨hsn, hks⟩ := tkK3 hT hv hk
  have hbh := bhd_sign hv.1 hsn hks
  have hx := nx_in hT hv
  have hlt := hx.2.2.1 hsn
  have hs0 := hv.1
  refine ev_row (fun m => tX10_test_2 _ m b ν 1 v2) (ev_neg (by decide) (ev_pos hr.2.1.1 (ev_callP (sX10_look hT b ν hr.2.1 (d + 2) (by omega)) (fun v ν1 ⟨e1, f1, l1, at1⟩ => ?_))))
  have hr1 := RX_lex hr (fgl f1 (by decide)) l1
  refine ev_pos (by show v = 91; rw [e1]; exact (tkS_by hT hv (by decide)).2 ht) ?_
  dsimp only
  rw [at1]
  by_cases c : o < 6
  · refine ev_callP (sX10_opens 25 s b ν1 hr1 (by omega) o0 c (d + 2) (by omega)) (fun _ ν2 ⟨a1, a2⟩ => ?_)
    dsimp only
    rw [a2, at1, w32_id (by omega) (by omega)]
    have hf : Fg [] [2, 4, 31] ν2 (m2 ν2 96 2 (s + 1)) := fg_m96 fg_rfl (by decide)
    have hr3 := RX_lex a1 (fgl hf (by decide)) (RSv_next hT a1.2.1 hf (by rw [m2_at, if_pos rfl, hbh]) (Or.inr ⟨hk, by rw [m2_at, if_neg (by decide)]⟩))
    exact h c (by rw [List.length_append]; show ((V.length + 1 : Nat) : Int) + _ + _ + 4 ≤ _; omega) _ hr3 _
  · refine ev_callP (sX10_opens_bad 25 s b ν1 hr1 (by omega) (d + 2) (by omega)) (fun _ ν2 ⟨a1, a2⟩ => ?_)
    exact te_bad (hB c) (RXb_at (RX_bad hT hr1 c00 hb (fgl a1 (by decide)) a2) _) (by decide) _ _
theorem t_fact {d : Nat} (hd : 6 ≤ d) {b : Bool} {T : Int → Int} {n : Int} (hT : Tp T n) {ν0 : Nat → Int → Int} {c0 bs : Int} {QT : Int → (Nat → Int → Int) → Prop} {V : List Int} {o s : Int} {g : Bool} {C : List Int} (hw : tkW T n s g ≠ 18) (hs : tkS T n s g ≠ 91) {r : CR} (hfc : ∀ ν, RX T n ν0 c0 bs ν s g V o C → Cal (d + 2) 35 [mP 96] b ν (fun _ ν' => RPo T n ν0 c0 bs 2 V o C ν' r)) (hok : ∀ L s' g', r = .inr (L, s', g') → (V.length : Int) + c0 + ((C ++ L).length : Int) + 4 ≤ s' ∧ BT d b T n ν0 c0 bs QT V o s' g' (C ++ L)) (hB : ∀ e, r = .inl e → HBT ν0 QT e) : BH d b T n ν0 c0 bs QT V o s g C := fun hb ν hr v2 => by
  have hv := hr.2.1.2.2.2.2.2.2.1
  refine ev_row (fun m => tX10_test_2 _ m b ν 1 v2) (ev_neg (by decide) (ev_pos hr.2.1.1 (ev_callP (sX10_look hT b ν hr.2.1 (d + 2) (by omega)) (fun v ν1 ⟨e1, f1, l1, at1⟩ => ?_))))
  have hr1 := RX_lex hr (fgl f1 (by decide)) l1
  refine ev_neg (by show ¬ v = 91; rw [e1]; exact fun q => hs ((tkS_by hT hv (by decide)).1 q)) (ev_callP (sX10_isHere hT (j := 18) (by decide) b ν1 l1 (d + 2) (by omega)) (fun v' ν2 ⟨e2, f2, l2, at2⟩ => ?_))
  have hr2 := RX_lex hr1 (fgl f2 (by decide)) l2
  rw [t01_neg (show ¬ tkW T n s g = ((18 : Nat) : Int) from hw)] at e2
  refine ev_pos (show v' = 0 from e2) (ev_callP (hfc ν2 hr2) (fun _ ν3 hp => ?_))
  rcases hq : r with e | ⟨L, s', g'⟩
  · rw [hq] at hp
    have hp' : RXb ν0 2 ν3 e := hp
    have hdn : mCallN (d + 2) 30 [mP 96] (SH, ν3, RHO b) = some (0, SH, ν3, RHO b) := cal_eq (cal_ev (fun r => call_X10_dropsNots (d + 1) b ν3) (ev_row (fun q => tX10_dropsNots_0 _ q b ν3) (ev_neg (by rw [hp'.2.1.1]; exact hp'.2.1.2.1) (ev_row (fun q => tX10_dropsNots_33 _ q b ν3) (ev_ret ⟨rfl, rfl⟩)))))
    exact ev_call hdn (U1_bad (hB e hq) hp' (by decide) _)
  · rw [hq] at hp
    have hp' : RX T n ν0 c0 bs ν3 s' g' V o (C ++ L) := hp
    obtain ⟨hbl, hbt⟩ := hok L s' g' hq
    exact ev_callP (cal_ev (fun r => call_X10_dropsNots (d + 1) b ν3) ((hbt hbl ν3 hp').1 _)) (fun _ ν4 h4 => h4)
/-! behind a fact -/
theorem td_not {d : Nat} (hd : 3 ≤ d) {b : Bool} {T : Int → Int} {n : Int} (hT : Tp T n) {ν0 : Nat → Int → Int} {c0 bs : Int} (c00 : 0 ≤ c0) {QT : Int → (Nat → Int → Int) → Prop} {V : List Int} {o s : Int} {g : Bool} {C : List Int} (o0 : 0 ≤ o) (o6 : o ≤ 6) (h : BT d b T n ν0 c0 bs QT V o s g (C ++ [17])) : BT d b T n ν0 c0 bs QT (V ++ [17]) (o + 1) s g C := fun hb ν hr => by
  have hn1 := hT.2.1
  have hs1 := hr.2.1.2.2.2.2.2.2.1.2.1
  rw [List.length_append] at hb
  have hb1 : ((V.length + [(17 : Int)].length : Nat) : Int) = (V.length : Int) + 1 := rfl
  have hb' : (V.length : Int) + 1 + c0 + (C.length : Int) + 4 ≤ s := by omega
  have step : ∀ (d' : Nat) (P : Int → (Nat → Int → Int) → Prop), 2 ≤ d' → (∀ ν2, RX T n ν0 c0 bs ν2 s g V o (C ++ [17]) → Ev (fun n => mRun (mCallN d') kX10_dropsNots n 0 [some (mP 96)] [] (SH, ν2, RHO b)) b P) → Ev (fun n => mRun (mCallN d') kX10_dropsNots n 0 [some (mP 96)] [] (SH, ν, RHO b)) b P := fun d' P hd' hK => by
    have e17 := sX10_isOn 17 (by decide) b ν hr (by simp; omega) d' (by omega)
    rw [topW_app, t01_pos rfl] at e17
    have h44 := hr.2.2.2.1
    have hr2 : RX T n ν0 c0 bs (m2 ν 96 44 (w32 (ν 96 44 - 1))) s g (V ++ [17]) o C := RX_put hr (fg_m96 fg_rfl (by decide)) ⟨by rw [m2_at, if_neg (by decide)]; exact hr.2.2.1.1, fun i hi => by rw [m2_ne (by decide)]; exact hr.2.2.1.2 i hi⟩ (by rw [m2_at, if_pos rfl, h44, w32_id (by omega) (by omega)]; omega)
    exact ev_row (fun q => tX10_dropsNots_0 _ q b ν) (ev_pos hr.2.1.1 (ev_call e17 (ev_neg (by show ¬ ((1 : Int) = 0); decide) (ev_callP (sX10_drops b _ hr2 c00 (by omega) d' (by omega)) (fun _ ν3 ⟨a1, a2⟩ => hK ν3 a1)))))
  have hbl : (V.length : Int) + c0 + ((C ++ [17]).length : Int) + 4 ≤ s := by rw [List.length_append]; show _ + ((C.length + 1 : Nat) : Int) + 4 ≤ s; omega
  exact ⟨fun c => step (d + 1) _ (by omega) (fun ν2 h2 => (h hbl ν2 h2).1 c), fun c => step d _ (by omega) (fun ν2 h2 => (h hbl ν2 h2).2 c)⟩
theorem td_done {d : Nat} (hd : 3 ≤ d) {b : Bool} {T : Int → Int} {n : Int} (hT : Tp T n) {ν0 : Nat → Int → Int} {c0 bs : Int} (c00 : 0 ≤ c0) {QT : Int → (Nat → Int → Int) → Prop} {V : List Int} {o s : Int} {g : Bool} {C : List Int} (htop : topW V ≠ 17) (h : BG d b T n ν0 c0 bs QT V o s g C) : BT d b T n ν0 c0 bs QT V o s g C := fun hb ν hr => by
  have hn1 := hT.2.1
  have hs1 := hr.2.1.2.2.2.2.2.2.1.2.1
  have step : ∀ (d' : Nat) (P : Int → (Nat → Int → Int) → Prop), 2 ≤ d' → P 0 ν → Ev (fun n => mRun (mCallN d') kX10_dropsNots n 0 [some (mP 96)] [] (SH, ν, RHO b)) b P := fun d' P hd' hK => by
    have e17 := sX10_isOn 17 (by decide) b ν hr (by omega) d' (by omega)
    rw [t01_neg htop] at e17
    exact ev_row (fun q => tX10_dropsNots_0 _ q b ν) (ev_pos hr.2.1.1 (ev_call e17 (ev_pos rfl (ev_row (fun q => tX10_dropsNots_33 _ q b ν) (ev_ret hK)))))
  exact ⟨fun c => step (d + 1) _ (by omega) (U1_ok hr.2.1.1 (h hb ν hr) c), fun c => step d _ (by omega) (h hb ν hr c)⟩
def isAO (v : Int) : Prop := v = 15 ∨ v = 16
theorem gt_close {d : Nat} (hd : 3 ≤ d) {b : Bool} {T : Int → Int} {n : Int} (hT : Tp T n) {ν0 : Nat → Int → Int} {c0 bs : Int} (c00 : 0 ≤ c0) {QT : Int → (Nat → Int → Int) → Prop} {V0 Q : List Int} {o s : Int} {g : Bool} {C : List Int} (hQ : ∀ q ∈ Q, isAO q) (o1 : 1 ≤ o) (o6 : o ≤ 6) (ht : tkS T n s g = 93) (h : BT d b T n ν0 c0 bs QT V0 (o - 1) (nxS T n s) (nxG T n s g) (C ++ Q)) : BG d b T n ν0 c0 bs QT (V0 ++ [25] ++ Q.reverse) o s g C := fun hb ν hr c => by
  have hn1 := hT.2.1
  have hv := hr.2.1.2.2.2.2.2.2.1
  have hk := tkS_k ht (by decide)
  obtain ⟨hsn, hks⟩ := tkK3 hT hv hk
  have hbh := bhd_sign hv.1 hsn hks
  have hx := nx_in hT hv
  have hlt := hx.2.2.1 hsn
  have hs0 := hv.1
  have hlen : (V0 ++ [25] ++ Q.reverse).length = V0.length + 1 + Q.length := by simp; omega
  rw [hlen] at hb
  have lp : ∀ (Q C' : List Int) (ν' : Nat → Int → Int), RX T n ν0 c0 bs ν' (nxS T n s) (nxG T n s g) (V0 ++ [25] ++ Q.reverse) o C' → (∀ q ∈ Q, isAO q) → (V0.length : Int) + 1 + (Q.length : Int) + c0 + (C'.length : Int) + 4 ≤ s → BT d b T n ν0 c0 bs QT V0 (o - 1) (nxS T n s) (nxG T n s g) (C' ++ Q) → Ev (fun q => mRun (mCallN (d + 1)) kX10_goesOnTest q 33 [some (mP 96)] [] (SH, ν', RHO b)) b (fun v ν' => U2 d b QT c v ν') := by
    intro Q
    induction Q with
    | nil =>
      intro C' ν' hr' _ hw hA
      rw [show V0 ++ [25] ++ ([] : List Int).reverse = V0 ++ [25] by simp] at hr'
      rw [List.append_nil] at hA
      rw [List.length_nil] at hw
      have h3 := hr'.2.2.1
      have h43 : ν' 96 43 = (V0.length : Int) + 1 := by rw [h3.1]; simp
      have h44 := hr'.2.2.2.1
      have e25 := sX10_isOn 25 (by decide) b ν' hr' (by simp; omega) (d + 1) (by omega)
      rw [topW_app, t01_pos rfl] at e25
      have hX : m2 (m2 ν' 96 43 (w32 (ν' 96 43 - 1))) 96 44 (w32 ((m2 ν' 96 43 (w32 (ν' 96 43 - 1))) 96 44 - 1)) = m2 (m2 ν' 96 43 (V0.length : Int)) 96 44 (o - 1) := by
        rw [h43, show w32 ((V0.length : Int) + 1 - 1) = (V0.length : Int) from by rw [w32_id (by omega) (by omega)]; omega]
        rw [show (m2 ν' 96 43 (V0.length : Int)) 96 44 = o from by rw [m2_at, if_neg (by decide)]; exact h44, w32_id (by omega) (by omega)]
      have hr5 : RX T n ν0 c0 bs (m2 (m2 ν' 96 43 (V0.length : Int)) 96 44 (o - 1)) (nxS T n s) (nxG T n s g) V0 (o - 1) C' := RX_put hr' (fg_m96 (fg_m96 fg_rfl (by decide)) (by decide)) ⟨by rw [m2_at, if_neg (by decide), m2_at, if_pos rfl], fun i hi => by
        rw [m2_ne (by decide), m2_ne (by decide), h3.2 i (by rw [List.length_append]; exact Nat.lt_succ_of_lt hi), getD_app_l hi]⟩ (by rw [m2_at, if_pos rfl])
      refine ev_row (fun q => tX10_goesOnTest_33 _ q b ν') (ev_call e25 (ev_neg (by show ¬ ((1 : Int) = 0); decide) ?_))
      dsimp only
      rw [hX]
      exact ev_callP (cal_ev (fun r => call_X10_dropsNots d b _) ((hA (by omega) _ hr5).2 c)) (fun _ ν6 h6 => h6)
    | cons q Q ih =>
      intro C' ν' hr' hQ hw hA
      rw [rev_cons_app] at hr'
      rw [List.length_cons] at hw
      have hq := hQ q List.mem_cons_self
      unfold isAO at hq
      have hll : (V0 ++ [25] ++ Q.reverse).length = V0.length + 1 + Q.length := by simp; omega
      have e25 := sX10_isOn 25 (by decide) b ν' hr' (by rw [List.length_append, hll]; simp; omega) (d + 1) (by omega)
      rw [topW_app, t01_neg (by omega)] at e25
      exact ev_row (fun q => tX10_goesOnTest_33 _ q b ν') (ev_call e25 (ev_pos rfl (ev_callP (sX10_drops b ν' hr' c00 (by rw [hll]; omega) (d + 1) (by omega)) (fun _ ν2 ⟨a1, a2⟩ => ih (C' ++ [q]) ν2 a1 (fun x hx' => hQ x (List.mem_cons_of_mem _ hx')) (by rw [List.length_append]; show _ + _ + _ + _ + ((C'.length + 1 : Nat) : Int) + 4 ≤ _; omega) (by rw [List.append_assoc]; exact hA)))))
  refine ev_row (fun q => tX10_goesOnTest_0 _ q b ν) (ev_pos hr.2.1.1 (ev_callP (sX10_look hT b ν hr.2.1 (d + 1) (by omega)) (fun v ν1 ⟨e1, f1, l1, at1⟩ => ?_)))
  have hr1 := RX_lex hr (fgl f1 (by decide)) l1
  have hsq := sX10_hasSquare b ν1 hr1 (by rw [hlen]; omega) (d + 1) (by omega)
  rw [t01_pos (by simp)] at hsq
  refine ev_pos (by show v = 93; rw [e1]; exact (tkS_by hT hv (by decide)).2 ht) (ev_call hsq (ev_neg (by show ¬ ((1 : Int) = 0); decide) ?_))
  dsimp only
  rw [at1, w32_id (by omega) (by omega)]
  have hf : Fg [] [2, 4, 31] ν1 (m2 ν1 96 2 (s + 1)) := fg_m96 fg_rfl (by decide)
  have hr3 := RX_lex hr1 (fgl hf (by decide)) (RSv_next hT hr1.2.1 hf (by rw [m2_at, if_pos rfl, hbh]) (Or.inr ⟨hk, by rw [m2_at, if_neg (by decide)]⟩))
  exact lp Q C _ hr3 hQ (by omega) h
theorem gt_76 {d : Nat} (hd : 3 ≤ d) {b : Bool} {T : Int → Int} {n : Int} (hT : Tp T n) {ν0 : Nat → Int → Int} {c0 bs : Int} {QT : Int → (Nat → Int → Int) → Prop} {V : List Int} {o s : Int} {g : Bool} {C : List Int} (hw : V.length ≤ 1600) (hc : tkS T n s g ≠ 93 ∨ (25 : Int) ∉ V) (c : Int) (h : ∀ ν1, RX T n ν0 c0 bs ν1 s g V o C → Ev (fun q => mRun (mCallN (d + 1)) kX10_goesOnTest q 76 [some (mP 96)] [] (SH, ν1, RHO b)) b (fun v ν' => U2 d b QT c v ν')) : ∀ ν, RX T n ν0 c0 bs ν s g V o C → Ev (fun q => mRun (mCallN (d + 1)) kX10_goesOnTest q 0 [some (mP 96)] [] (SH, ν, RHO b)) b (fun v ν' => U2 d b QT c v ν') := fun ν hr => by
  have hv := hr.2.1.2.2.2.2.2.2.1
  refine ev_row (fun q => tX10_goesOnTest_0 _ q b ν) (ev_pos hr.2.1.1 (ev_callP (sX10_look hT b ν hr.2.1 (d + 1) (by omega)) (fun v ν1 ⟨e1, f1, l1, at1⟩ => ?_)))
  have hr1 := RX_lex hr (fgl f1 (by decide)) l1
  have hsq := sX10_hasSquare b ν1 hr1 hw (d + 1) (by omega)
  refine ev_br (fun e => ev_call hsq ?_) (fun _ => h ν1 hr1)
  have e' : v = 93 := e
  rw [e1] at e'
  have ht := (tkS_by (g := g) hT hv (by decide)).1 e'
  exact ev_pos (t01_neg (hc.resolve_left (fun q => q ht))) (h ν1 hr1)
theorem gt_and {d : Nat} (hd : 3 ≤ d) {b : Bool} {T : Int → Int} {n : Int} (hT : Tp T n) {ν0 : Nat → Int → Int} {c0 bs : Int} (c00 : 0 ≤ c0) {QT : Int → (Nat → Int → Int) → Prop} {V Q : List Int} {o s : Int} {g : Bool} {C : List Int} (hQ : ∀ q ∈ Q, q = 15) (htop : topW V ≠ 15) (ht : tkW T n s g = 17) (h : BH d b T n ν0 c0 bs QT (V ++ [15]) o (nxS T n s) (nxG T n s g) (C ++ Q)) : BG d b T n ν0 c0 bs QT (V ++ Q.reverse) o s g C := fun hb ν hr c => by
  have hn1 := hT.2.1
  have hv := hr.2.1.2.2.2.2.2.2.1
  obtain ⟨hk1, hsn, -, -⟩ := tkW_pos hT hv (by omega : 0 ≤ tkW T n s g)
  have hx := nx_in hT hv
  have hlt := hx.2.2.1 hsn
  have hlen : (V ++ Q.reverse).length = V.length + Q.length := by simp
  rw [hlen] at hb
  have hns : tkS T n s g ≠ 93 := fun q => by have := tkS_k q (by decide); omega
  have lp : ∀ (Q C' : List Int) (ν' : Nat → Int → Int), RX T n ν0 c0 bs ν' (nxS T n s) (nxG T n s g) (V ++ Q.reverse) o C' → (∀ q ∈ Q, q = 15) → (V.length : Int) + (Q.length : Int) + c0 + (C'.length : Int) + 4 ≤ s → BH d b T n ν0 c0 bs QT (V ++ [15]) o (nxS T n s) (nxG T n s g) (C' ++ Q) → Ev (fun q => mRun (mCallN (d + 1)) kX10_goesOnTest q 87 [some (mP 96)] [] (SH, ν', RHO b)) b (fun v ν' => U2 d b QT c v ν') := by
    intro Q
    induction Q with
    | nil =>
      intro C' ν' hr' _ hw hA
      rw [show V ++ ([] : List Int).reverse = V by simp] at hr'
      rw [List.append_nil] at hA
      rw [List.length_nil] at hw
      have h3 := hr'.2.2.1
      have e15 := sX10_isOn 15 (by decide) b ν' hr' (by omega) (d + 1) (by omega)
      rw [t01_neg htop] at e15
      refine ev_row (fun q => tX10_goesOnTest_87 _ q b ν') (ev_call e15 (ev_pos rfl (ev_if (by show 0 ≤ ν' 96 43 ∧ ν' 96 43 < 1700; rw [h3.1]; omega) (ev_ret ?_))))
      dsimp only
      rw [h3.1]
      have e43 : (m2 ν' 127 (V.length : Int) 15) 96 43 = (V.length : Int) := by rw [m2_ne (by decide)]; exact h3.1
      rw [e43, w32_id (by omega) (by omega)]
      have hr2 : RX T n ν0 c0 bs (m2 (m2 ν' 127 (V.length : Int) 15) 96 43 ((V.length : Int) + 1)) (nxS T n s) (nxG T n s g) (V ++ [15]) o C' := RX_put hr' (fg_m96 (fg_m2 fg_rfl (by decide) (by decide)) (by decide)) ⟨by rw [m2_at, if_pos rfl, List.length_append]; rfl, fun i hi => by
        rw [m2_ne (by decide), m2_at]; exact W_push h3 15 i hi⟩ (by rw [m2_at, if_neg (by decide), m2_ne (by decide)]; exact hr'.2.2.2.1)
      exact U2_1 (hA (by rw [List.length_append]; show ((V.length + 1 : Nat) : Int) + _ + _ + 4 ≤ _; omega) _ hr2) c
    | cons q Q ih =>
      intro C' ν' hr' hQ hw hA
      rw [rev_cons_app] at hr'
      rw [List.length_cons] at hw
      have hq := hQ q List.mem_cons_self
      have hll : (V ++ Q.reverse).length = V.length + Q.length := by simp
      have e15 := sX10_isOn 15 (by decide) b ν' hr' (by rw [List.length_append, hll]; simp; omega) (d + 1) (by omega)
      rw [topW_app, t01_pos hq] at e15
      exact ev_row (fun q => tX10_goesOnTest_87 _ q b ν') (ev_call e15 (ev_neg (by show ¬ ((1 : Int) = 0); decide) (ev_callP (sX10_drops b ν' hr' c00 (by rw [hll]; omega) (d + 1) (by omega)) (fun _ ν2 ⟨a1, a2⟩ => ih (C' ++ [q]) ν2 a1 (fun x hx' => hQ x (List.mem_cons_of_mem _ hx')) (by rw [List.length_append]; show _ + _ + _ + ((C'.length + 1 : Nat) : Int) + 4 ≤ _; omega) (by rw [List.append_assoc]; exact hA)))))
  refine gt_76 hd hT (by rw [hlen]; omega) (Or.inl hns) c (fun ν1 hr1 => ?_) ν hr
  refine ev_row (fun q => tX10_goesOnTest_76 _ q b ν1) (ev_callP (sX10_takes hT (j := 17) (by decide) b ν1 hr1.2.1 (d + 1) (by omega)) (fun v ν2 ⟨f2, hc⟩ => ?_))
  rcases hc with ⟨c1, c2, c3⟩ | ⟨c1, -⟩
  · exact ev_neg (by show ¬ v = 0; omega) (lp Q C ν2 (RX_lex hr1 (fgl f2 (by decide)) c3) hQ (by omega) h)
  · exact absurd ht c1
theorem gt_or {d : Nat} (hd : 3 ≤ d) {b : Bool} {T : Int → Int} {n : Int} (hT : Tp T n) {ν0 : Nat → Int → Int} {c0 bs : Int} (c00 : 0 ≤ c0) {QT : Int → (Nat → Int → Int) → Prop} {V Q : List Int} {o s : Int} {g : Bool} {C : List Int} (hQ : ∀ q ∈ Q, isAO q) (htop : ¬ isAO (topW V)) (ht : tkW T n s g = 16) (h : BH d b T n ν0 c0 bs QT (V ++ [16]) o (nxS T n s) (nxG T n s g) (C ++ Q)) : BG d b T n ν0 c0 bs QT (V ++ Q.reverse) o s g C := fun hb ν hr c => by
  have hn1 := hT.2.1
  have hv := hr.2.1.2.2.2.2.2.2.1
  obtain ⟨hk1, hsn, -, -⟩ := tkW_pos hT hv (by omega : 0 ≤ tkW T n s g)
  have hx := nx_in hT hv
  have hlt := hx.2.2.1 hsn
  have hlen : (V ++ Q.reverse).length = V.length + Q.length := by simp
  rw [hlen] at hb
  unfold isAO at htop
  have hns : tkS T n s g ≠ 93 := fun q => by have := tkS_k q (by decide); omega
  have lp : ∀ (Q C' : List Int) (ν' : Nat → Int → Int), RX T n ν0 c0 bs ν' (nxS T n s) (nxG T n s g) (V ++ Q.reverse) o C' → (∀ q ∈ Q, isAO q) → (V.length : Int) + (Q.length : Int) + c0 + (C'.length : Int) + 4 ≤ s → BH d b T n ν0 c0 bs QT (V ++ [16]) o (nxS T n s) (nxG T n s g) (C' ++ Q) → Ev (fun q => mRun (mCallN (d + 1)) kX10_goesOnTest q 137 [some (mP 96)] [] (SH, ν', RHO b)) b (fun v ν' => U2 d b QT c v ν') := by
    intro Q
    induction Q with
    | nil =>
      intro C' ν' hr' _ hw hA
      rw [show V ++ ([] : List Int).reverse = V by simp] at hr'
      rw [List.append_nil] at hA
      rw [List.length_nil] at hw
      have h3 := hr'.2.2.1
      have e15 := sX10_isOn 15 (by decide) b ν' hr' (by omega) (d + 1) (by omega)
      have e16 := sX10_isOn 16 (by decide) b ν' hr' (by omega) (d + 1) (by omega)
      rw [t01_neg (by omega)] at e15 e16
      refine ev_row (fun q => tX10_goesOnTest_137 _ q b ν') (ev_call e15 (ev_pos rfl (ev_call e16 (ev_pos rfl (ev_if (by show 0 ≤ ν' 96 43 ∧ ν' 96 43 < 1700; rw [h3.1]; omega) (ev_ret ?_))))))
      dsimp only
      rw [h3.1]
      have e43 : (m2 ν' 127 (V.length : Int) 16) 96 43 = (V.length : Int) := by rw [m2_ne (by decide)]; exact h3.1
      rw [e43, w32_id (by omega) (by omega)]
      have hr2 : RX T n ν0 c0 bs (m2 (m2 ν' 127 (V.length : Int) 16) 96 43 ((V.length : Int) + 1)) (nxS T n s) (nxG T n s g) (V ++ [16]) o C' := RX_put hr' (fg_m96 (fg_m2 fg_rfl (by decide) (by decide)) (by decide)) ⟨by rw [m2_at, if_pos rfl, List.length_append]; rfl, fun i hi => by
        rw [m2_ne (by decide), m2_at]; exact W_push h3 16 i hi⟩ (by rw [m2_at, if_neg (by decide), m2_ne (by decide)]; exact hr'.2.2.2.1)
      exact U2_1 (hA (by rw [List.length_append]; show ((V.length + 1 : Nat) : Int) + _ + _ + 4 ≤ _; omega) _ hr2) c
    | cons q Q ih =>
      intro C' ν' hr' hQ hw hA
      rw [rev_cons_app] at hr'
      rw [List.length_cons] at hw
      have hq := hQ q List.mem_cons_self
      unfold isAO at hq
      have hll : (V ++ Q.reverse).length = V.length + Q.length := by simp
      have e15 := sX10_isOn 15 (by decide) b ν' hr' (by rw [List.length_append, hll]; simp; omega) (d + 1) (by omega)
      have e16 := sX10_isOn 16 (by decide) b ν' hr' (by rw [List.length_append, hll]; simp; omega) (d + 1) (by omega)
      rw [topW_app] at e15 e16
      have dr : Ev (fun q => mRun (mCallN (d + 1)) kX10_goesOnTest q 155 [some (mP 96)] [] (SH, ν', RHO b)) b (fun v ν' => U2 d b QT c v ν') := ev_row (fun q => tX10_goesOnTest_155 _ q b ν') (ev_callP (sX10_drops b ν' hr' c00 (by rw [hll]; omega) (d + 1) (by omega)) (fun _ ν2 ⟨a1, a2⟩ => ih (C' ++ [q]) ν2 a1 (fun x hx' => hQ x (List.mem_cons_of_mem _ hx')) (by rw [List.length_append]; show _ + _ + _ + ((C'.length + 1 : Nat) : Int) + 4 ≤ _; omega) (by rw [List.append_assoc]; exact hA)))
      refine ev_row (fun q => tX10_goesOnTest_137 _ q b ν') (ev_call e15 ?_)
      by_cases c15 : q = 15
      · exact ev_neg (by show ¬ t01 (q = 15) = 0; rw [t01_pos c15]; decide) dr
      · exact ev_pos (show t01 (q = 15) = 0 from t01_neg c15) (ev_call e16 (ev_neg (by show ¬ t01 (q = 16) = 0; rw [t01_pos (hq.resolve_left c15)]; decide) dr))
  refine gt_76 hd hT (by rw [hlen]; omega) (Or.inl hns) c (fun ν1 hr1 => ?_) ν hr
  refine ev_row (fun q => tX10_goesOnTest_76 _ q b ν1) (ev_callP (sX10_takes hT (j := 17) (by decide) b ν1 hr1.2.1 (d + 1) (by omega)) (fun v ν2 ⟨f2, hc⟩ => ?_))
  rcases hc with ⟨c1, -⟩ | ⟨c1, c2, c3, c4⟩
  · have c1' : tkW T n s g = 17 := c1
    omega
  · have hr2 := RX_lex hr1 (fgl f2 (by decide)) c3
    refine ev_pos (show v = 0 from c2) (ev_callP (sX10_takes hT (j := 16) (by decide) b ν2 c3 (d + 1) (by omega)) (fun v' ν3 ⟨f3, hc3⟩ => ?_))
    rcases hc3 with ⟨d1, d2, d3⟩ | ⟨d1, -⟩
    · exact ev_neg (by show ¬ v' = 0; omega) (lp Q C ν3 (RX_lex hr2 (fgl f3 (by decide)) d3) hQ (by omega) h)
    · exact absurd ht d1
theorem gt_none {d : Nat} (hd : 3 ≤ d) {b : Bool} {T : Int → Int} {n : Int} (hT : Tp T n) {ν0 : Nat → Int → Int} {c0 bs : Int} (c00 : 0 ≤ c0) {QT : Int → (Nat → Int → Int) → Prop} {V : List Int} {o s : Int} {g : Bool} {C : List Int} (h16 : tkW T n s g ≠ 16) (h17 : tkW T n s g ≠ 17) (hc : tkS T n s g ≠ 93 ∨ (25 : Int) ∉ V) (hin : (25 : Int) ∈ V → HBT ν0 QT (1, s)) (hend : (25 : Int) ∉ V → ∀ ν1, RX T n ν0 c0 bs ν1 s g V o C → ∀ c, U2 d b QT c 0 ν1) : BG d b T n ν0 c0 bs QT V o s g C := fun hb ν hr c => by
  have hn1 := hT.2.1
  have hs1 := hr.2.1.2.2.2.2.2.2.1.2.1
  refine gt_76 hd hT (by omega) hc c (fun ν1 hr1 => ?_) ν hr
  refine ev_row (fun q => tX10_goesOnTest_76 _ q b ν1) (ev_callP (sX10_takes hT (j := 17) (by decide) b ν1 hr1.2.1 (d + 1) (by omega)) (fun v ν2 ⟨f2, hc2⟩ => ?_))
  rcases hc2 with ⟨c1, -⟩ | ⟨c1, c2, c3, c4⟩
  · exact absurd c1 h17
  have hr2 := RX_lex hr1 (fgl f2 (by decide)) c3
  refine ev_pos (show v = 0 from c2) (ev_callP (sX10_takes hT (j := 16) (by decide) b ν2 c3 (d + 1) (by omega)) (fun v' ν3 ⟨f3, hc3⟩ => ?_))
  rcases hc3 with ⟨d1, -⟩ | ⟨d1, d2, d3, d4⟩
  · exact absurd d1 h16
  have hr3 := RX_lex hr2 (fgl f3 (by decide)) d3
  have hsq := sX10_hasSquare b ν3 hr3 (by omega) (d + 1) (by omega)
  refine ev_pos (show v' = 0 from d2) (ev_pos hr3.2.1.1 (ev_call hsq ?_))
  by_cases q : (25 : Int) ∈ V
  · refine ev_neg (by show ¬ t01 ((25 : Int) ∈ V) = 0; rw [t01_pos q]; decide) ?_
    dsimp only
    rw [d4]
    exact ev_callP (sX10_fail 1 s (by decide) b ν3 d3 (d + 1) (by omega)) (fun _ ν4 ⟨f4, l4⟩ => ev_row (fun q => tX10_goesOnTest_208 _ q b ν4) (ev_ret (U2_bad (hin q) (RX_bad hT hr3 c00 hb (fgl f4 (by decide)) l4) (by decide) c)))
  · exact ev_pos (show t01 ((25 : Int) ∈ V) = 0 from t01_neg q) (ev_row (fun q => tX10_goesOnTest_208 _ q b ν3) (ev_ret (hend q ν3 hr3 c)))
