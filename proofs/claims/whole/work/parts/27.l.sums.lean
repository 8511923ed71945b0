/-! ===== behind a part, in the reference ===== -/
theorem g_close {d : Nat} (hd : 5 ≤ d) {b : Bool} {T : Int → Int} {n : Int} (hT : Tp T n) {ν0 : Nat → Int → Int} {c0 bs was : Int} (c00 : 0 ≤ c0) (hb0 : 0 ≤ bs) {QS : Int → (Nat → Int → Int) → Prop} {W0 Q : List Int} {m o s : Int} {g : Bool} {C : List Int} (hbs : bs ≤ (W0.length : Int)) (hm : m = 20 ∨ m = 23 ∨ m = 24) (hQ : ∀ q ∈ Q, isOp q) (o1 : 1 ≤ o) (o6 : o ≤ 6) (ht : tkS T n s g = 41) (h : AG d b T n ν0 c0 bs was QS W0 (o - 1) (nxS T n s) (nxG T n s g) (C ++ Q ++ (if m = 20 then [] else if m = 23 then [5] else [6]))) : AG d b T n ν0 c0 bs was QS (W0 ++ [m] ++ Q.reverse) o s g C := fun hb ν hr => by
  have hn1 := hT.2.1
  have hv := hr.2.1.2.2.2.2.2.2.1
  have hk := tkS_k ht (by decide)
  obtain ⟨hsn, hks⟩ := tkK3 hT hv hk
  have hbh := bhd_sign hv.1 hsn hks
  have hx := nx_in hT hv
  have hlt := hx.2.2.1 hsn
  have hs0 := hv.1
  have hlen : (W0 ++ [m] ++ Q.reverse).length = W0.length + 1 + Q.length := by simp; omega
  rw [hlen] at hb
  have hm' : 20 ≤ m ∧ m ≤ 24 := by omega
  have r43 : ∀ ν2 : Nat → Int → Int, RX T n ν0 c0 bs ν2 s g (W0 ++ [m] ++ Q.reverse) o C → ν2 96 2 = s → Ev (fun q => mRun (mCallN d) kX10_goesOn q 43 [some (mP 96), none] [] (SH, ν2, RHO b)) b (fun v ν' => T2 d b was QS v ν') := fun ν2 hr2 at2 => by
    refine ev_row (fun q => tX10_goesOn_43 _ q b ν2) ?_
    rw [at2, w32_id (by omega) (by omega)]
    have hf : Fg [] [2, 4, 31] ν2 (m2 ν2 96 2 (s + 1)) := fg_m96 fg_rfl (by decide)
    have hr3 := RX_lex hr2 (fgl hf (by decide)) (RSv_next hT hr2.2.1 hf (by rw [m2_at, if_pos rfl, hbh]) (Or.inr ⟨hk, by rw [m2_at, if_neg (by decide)]⟩))
    refine ev_callP (sX10_dropsToMark b c00 hb0 hbs hm' _ hr3 (by omega) hQ d (by omega)) (fun _ ν4 ⟨a1, a2⟩ => ?_)
    have h43 : ν4 96 43 = (W0.length : Int) + 1 := by rw [a1.2.2.1.1]; simp
    have h44 : ν4 96 44 = o := a1.2.2.2.1
    have h127 : ν4 127 (W0.length : Int) = m := by rw [a1.2.2.1.2 W0.length (by simp), getD_app_at]
    have e44 : (m2 ν4 96 43 (W0.length : Int)) 96 44 = o := by rw [m2_at, if_neg (by decide)]; exact h44
    have e43 : (m2 (m2 ν4 96 43 (W0.length : Int)) 96 44 (o - 1)) 96 43 = (W0.length : Int) := by rw [m2_at, if_neg (by decide), m2_at, if_pos rfl]
    have e127 : (m2 (m2 ν4 96 43 (W0.length : Int)) 96 44 (o - 1)) 127 (W0.length : Int) = m := by rw [m2_ne (by decide), m2_ne (by decide)]; exact h127
    have hX : m2 (m2 ν4 96 43 (w32 (ν4 96 43 - 1))) 96 44 (w32 ((m2 ν4 96 43 (w32 (ν4 96 43 - 1))) 96 44 - 1)) = m2 (m2 ν4 96 43 (W0.length : Int)) 96 44 (o - 1) := by
      rw [h43, show w32 ((W0.length : Int) + 1 - 1) = (W0.length : Int) from by rw [w32_id (by omega) (by omega)]; omega, e44, w32_id (by omega) (by omega)]
    have hr5 : RX T n ν0 c0 bs (m2 (m2 ν4 96 43 (W0.length : Int)) 96 44 (o - 1)) (nxS T n s) (nxG T n s g) W0 (o - 1) (C ++ Q) := RX_put a1 (fg_m96 (fg_m96 fg_rfl (by decide)) (by decide)) ⟨e43, fun i hi => by
      rw [m2_ne (by decide), m2_ne (by decide), a1.2.2.1.2 i (by rw [List.length_append]; exact Nat.lt_succ_of_lt hi), getD_app_l hi]⟩ (by rw [m2_at, if_pos rfl])
    have r112 : ∀ y : Int, (if m = 20 then [] else if m = 23 then [5] else [6]) = [y] → Ev (fun q => mRun (mCallN d) kX10_goesOn q 112 [some (mP 96), none] [mI y, mP 96] (SH, m2 (m2 ν4 96 43 (W0.length : Int)) 96 44 (o - 1), RHO b)) b (fun v ν' => T2 d b was QS v ν') := fun y hy => by
      rw [hy] at h
      refine ev_row (fun q => tX10_goesOn_112 _ q b _ y) (ev_callP (sX10_code y b _ hr5 c00 (by rw [List.length_append]; omega) d (by omega)) (fun _ ν6 ⟨b1, b2⟩ => h ?_ ν6 b1))
      simp only [List.length_append, List.length_cons, List.length_nil]; omega
    have hin : 0 ≤ (m2 (m2 ν4 96 43 (w32 (ν4 96 43 - 1))) 96 44 (w32 ((m2 ν4 96 43 (w32 (ν4 96 43 - 1))) 96 44 - 1))) 96 43 ∧ (m2 (m2 ν4 96 43 (w32 (ν4 96 43 - 1))) 96 44 (w32 ((m2 ν4 96 43 (w32 (ν4 96 43 - 1))) 96 44 - 1))) 96 43 < 1700 := by rw [hX, e43]; omega
    have hval : (m2 (m2 ν4 96 43 (w32 (ν4 96 43 - 1))) 96 44 (w32 ((m2 ν4 96 43 (w32 (ν4 96 43 - 1))) 96 44 - 1))) 127 ((m2 (m2 ν4 96 43 (w32 (ν4 96 43 - 1))) 96 44 (w32 ((m2 ν4 96 43 (w32 (ν4 96 43 - 1))) 96 44 - 1))) 96 43) = m := by rw [hX, e43, e127]
    refine ev_if hin (ev_br (fun e => ?_) (fun e => ev_if hin (ev_br (fun e2 => ?_) (fun e2 => ?_))))
    · have e' : m = 20 := hval.symm.trans e
      rw [if_pos e', List.append_nil] at h
      dsimp only
      rw [hX]
      exact h (by rw [List.length_append]; omega) _ hr5
    · have e' : ¬ m = 20 := fun q => e (hval.trans q)
      have e2' : m = 23 := hval.symm.trans e2
      dsimp only
      rw [hX]
      exact r112 5 (by rw [if_neg e', if_pos e2'])
    · have e' : ¬ m = 20 := fun q => e (hval.trans q)
      have e2' : ¬ m = 23 := fun q => e2 (hval.trans q)
      dsimp only
      rw [hX]
      exact r112 6 (by rw [if_neg e', if_neg e2'])
  refine ev_row (fun q => tX10_goesOn_0 _ q b ν) (ev_pos hr.2.1.1 (ev_callP (sX10_look hT b ν hr.2.1 d (by omega)) (fun v ν1 ⟨e1, f1, l1, at1⟩ => ?_)))
  have hr1 := RX_lex hr (fgl f1 (by decide)) l1
  have hwl := sX10_waitsLast b ν1 hr1 (by omega) hb0 hbs hm' hQ d (by omega)
  refine ev_pos (by show v = 41; rw [e1]; exact (tkS_by hT hv (by decide)).2 ht) (ev_call hwl (ev_br (fun _ => r43 ν1 hr1 at1) (fun c => ev_call hwl (ev_br (fun _ => r43 ν1 hr1 at1) (fun c2 => ev_call hwl (ev_pos ?_ (r43 ν1 hr1 at1)))))))
  show m = 24
  have c' : ¬ m = 20 := c
  have c2' : ¬ m = 23 := c2
  omega
/-- not closed here: by what waits last -/
def lastM (b : Bool) (T : Int → Int) (n : Int) (ν0 : Nat → Int → Int) (c0 bs : Int) (W : List Int) (o : Int) (m : Int) : Prop := ∀ (d : Nat) (ν : Nat → Int → Int) (s : Int) (g : Bool) (C : List Int), 2 ≤ d → RX T n ν0 c0 bs ν s g W o C → W.length ≤ 1600 → mCallN d 130 [mP 96] (SH, ν, RHO b) = some (m, SH, ν, RHO b)
theorem lastM_in {b : Bool} {T : Int → Int} {n : Int} {ν0 : Nat → Int → Int} {c0 bs : Int} {W0 Q : List Int} {m o : Int} (hb0 : 0 ≤ bs) (hbs : bs ≤ (W0.length : Int)) (hm : 20 ≤ m ∧ m ≤ 24) (hQ : ∀ q ∈ Q, isOp q) : lastM b T n ν0 c0 bs (W0 ++ [m] ++ Q.reverse) o m := fun d ν s g C hd h hw => sX10_waitsLast b ν h (by simp at hw; omega) hb0 hbs hm hQ d hd
theorem lastM_no {b : Bool} {T : Int → Int} {n : Int} {ν0 : Nat → Int → Int} {c0 bs : Int} {B Q : List Int} {o : Int} (hbs : bs = (B.length : Int)) (hQ : ∀ q ∈ Q, isOp q) : lastM b T n ν0 c0 bs (B ++ Q.reverse) o (-1) := fun d ν s g C hd h hw => sX10_waitsLast_no b ν h (by simp at hw; omega) hbs hQ d hd
theorem g_fall {d : Nat} (hd : 5 ≤ d) {b : Bool} {T : Int → Int} {n : Int} (hT : Tp T n) {ν0 : Nat → Int → Int} {c0 bs was : Int} {QS : Int → (Nat → Int → Int) → Prop} {W : List Int} {m o s : Int} {g : Bool} {C : List Int} (hl : lastM b T n ν0 c0 bs W o m) (hw : W.length ≤ 1600) (hc : tkS T n s g ≠ 41 ∨ (m ≠ 20 ∧ m ≠ 23 ∧ m ≠ 24)) (h : ∀ ν1, RX T n ν0 c0 bs ν1 s g W o C → Ev (fun q => mRun (mCallN d) kX10_goesOn q 118 [some (mP 96), none] [] (SH, ν1, RHO b)) b (fun v ν' => T2 d b was QS v ν')) : ∀ ν, RX T n ν0 c0 bs ν s g W o C → GG d b was QS ν := fun ν hr => by
  have hv := hr.2.1.2.2.2.2.2.2.1
  refine ev_row (fun q => tX10_goesOn_0 _ q b ν) (ev_pos hr.2.1.1 (ev_callP (sX10_look hT b ν hr.2.1 d (by omega)) (fun v ν1 ⟨e1, f1, l1, at1⟩ => ?_)))
  have hr1 := RX_lex hr (fgl f1 (by decide)) l1
  have hwl := hl d ν1 s g C (by omega) hr1 hw
  refine ev_br (fun c => ?_) (fun _ => h ν1 hr1)
  have c' : v = 41 := c
  rw [e1] at c'
  have ht := (tkS_by (g := g) hT hv (by decide)).1 c'
  obtain ⟨n1, n2, n3⟩ := hc.resolve_left (fun q => q ht)
  exact ev_call hwl (ev_neg n1 (ev_call hwl (ev_neg n2 (ev_call hwl (ev_neg n3 (h ν1 hr1))))))
/-- drops operations of a kind from the top, then waits with another -/
theorem g_mul {d : Nat} (hd : 5 ≤ d) {b : Bool} {T : Int → Int} {n : Int} (hT : Tp T n) {ν0 : Nat → Int → Int} {c0 bs was : Int} (c00 : 0 ≤ c0) {QS : Int → (Nat → Int → Int) → Prop} {W Q : List Int} {m o s j : Int} {g : Bool} {C : List Int} (hl : lastM b T n ν0 c0 bs (W ++ Q.reverse) o m) (hQ : ∀ q ∈ Q, q = 3 ∨ q = 4) (htop : topW W ≠ 3 ∧ topW W ≠ 4) (hj : (tkS T n s g = 42 ∧ j = 3) ∨ (tkS T n s g = 47 ∧ j = 4)) (h : AH d b T n ν0 c0 bs was QS (W ++ [j]) o (nxS T n s) (nxG T n s g) (C ++ Q)) : AG d b T n ν0 c0 bs was QS (W ++ Q.reverse) o s g C := fun hb ν hr => by
  have hn1 := hT.2.1
  have hv := hr.2.1.2.2.2.2.2.2.1
  have hk : tkK T n s g = 3 := by rcases hj with ⟨q, -⟩ | ⟨q, -⟩ <;> exact tkS_k q (by decide)
  obtain ⟨hsn, hks⟩ := tkK3 hT hv hk
  have hTs : T s = tkS T n s g := by unfold tkS; rw [if_pos hk]
  have hx := nx_in hT hv
  have hlt := hx.2.2.1 hsn
  have hs0 := hv.1
  have hlen : (W ++ Q.reverse).length = W.length + Q.length := by simp
  rw [hlen] at hb
  have lp : ∀ (Q C' : List Int) (ν' : Nat → Int → Int), RX T n ν0 c0 bs ν' (nxS T n s) (nxG T n s g) (W ++ Q.reverse) o C' → (∀ q ∈ Q, q = 3 ∨ q = 4) → (W.length : Int) + (Q.length : Int) + c0 + (C'.length : Int) + 4 ≤ s → AH d b T n ν0 c0 bs was QS (W ++ [j]) o (nxS T n s) (nxG T n s g) (C' ++ Q) → Ev (fun q => mRun (mCallN d) kX10_goesOn q 158 [some (mP 96), some (mI j)] [] (SH, ν', RHO b)) b (fun v ν' => T2 d b was QS v ν') := by
    intro Q
    induction Q with
    | nil =>
      intro C' ν' hr' _ hw hA
      rw [show W ++ ([] : List Int).reverse = W by simp] at hr'
      rw [List.append_nil] at hA
      have h3 := hr'.2.2.1
      rw [List.length_nil] at hw
      have e3 := sX10_isOn 3 (by decide) b ν' hr' (by omega) d (by omega)
      have e4 := sX10_isOn 4 (by decide) b ν' hr' (by omega) d (by omega)
      rw [t01_neg htop.1] at e3
      rw [t01_neg htop.2] at e4
      refine ev_row (fun q => tX10_goesOn_158 _ q b ν' j) (ev_call e3 (ev_pos rfl (ev_call e4 (ev_pos rfl (ev_if (by show 0 ≤ ν' 96 43 ∧ ν' 96 43 < 1700; rw [h3.1]; omega) (ev_ret ?_))))))
      dsimp only
      rw [h3.1]
      have e43 : (m2 ν' 127 (W.length : Int) j) 96 43 = (W.length : Int) := by rw [m2_ne (by decide)]; exact h3.1
      rw [e43, w32_id (by omega) (by omega)]
      have hr2 : RX T n ν0 c0 bs (m2 (m2 ν' 127 (W.length : Int) j) 96 43 ((W.length : Int) + 1)) (nxS T n s) (nxG T n s g) (W ++ [j]) o C' := RX_put hr' (fg_m96 (fg_m2 fg_rfl (by decide) (by decide)) (by decide)) ⟨by rw [m2_at, if_pos rfl, List.length_append]; rfl, fun i hi => by
        rw [m2_ne (by decide), m2_at]; exact W_push h3 j i hi⟩ (by rw [m2_at, if_neg (by decide), m2_ne (by decide)]; exact hr'.2.2.2.1)
      exact T2_1 hr2.2.1.1 (hA (by rw [List.length_append]; show ((W.length + 1 : Nat) : Int) + _ + _ + 4 ≤ _; omega) _ hr2)
    | cons q Q ih =>
      intro C' ν' hr' hQ hw hA
      rw [rev_cons_app] at hr'
      rw [List.length_cons] at hw
      have hq := hQ q List.mem_cons_self
      have hll : (W ++ Q.reverse).length = W.length + Q.length := by simp
      have e3 := sX10_isOn 3 (by decide) b ν' hr' (by simp; omega) d (by omega)
      have e4 := sX10_isOn 4 (by decide) b ν' hr' (by simp; omega) d (by omega)
      rw [topW_app] at e3 e4
      have dr : Ev (fun q => mRun (mCallN d) kX10_goesOn q 174 [some (mP 96), some (mI j)] [] (SH, ν', RHO b)) b (fun v ν' => T2 d b was QS v ν') := ev_row (fun q => tX10_goesOn_174 _ q b ν' j) (ev_callP (sX10_drops b ν' hr' c00 (by rw [hll]; omega) d (by omega)) (fun _ ν2 ⟨a1, a2⟩ => ih (C' ++ [q]) ν2 a1 (fun x hx' => hQ x (List.mem_cons_of_mem _ hx')) (by rw [List.length_append]; show _ + _ + _ + ((C'.length + 1 : Nat) : Int) + 4 ≤ _; omega) (by rw [List.append_assoc]; exact hA)))
      refine ev_row (fun q => tX10_goesOn_158 _ q b ν' j) (ev_call e3 ?_)
      by_cases c3 : q = 3
      · exact ev_neg (by show ¬ t01 (q = 3) = 0; rw [t01_pos c3]; decide) dr
      · exact ev_pos (show t01 (q = 3) = 0 from t01_neg c3) (ev_call e4 (ev_neg (by show ¬ t01 (q = 4) = 0; rw [t01_pos (hq.resolve_left c3)]; decide) dr))
  refine g_fall hd hT hl (by omega) (Or.inl (by omega)) (fun ν1 hr1 => ?_) ν hr
  have r136 : ∀ ν2 : Nat → Int → Int, RX T n ν0 c0 bs ν2 (nxS T n s) (nxG T n s g) (W ++ Q.reverse) o C → ν2 96 2 = s + 1 → Ev (fun q => mRun (mCallN d) kX10_goesOn q 136 [some (mP 96), none] [] (SH, ν2, RHO b)) b (fun v ν' => T2 d b was QS v ν') := fun ν2 hr2 at2 => by
    have hT2 := hr2.2.1.2.2.2.1 s hs0 (by omega)
    refine ev_row (fun q => tX10_goesOn_136 _ q b ν2) ?_
    rw [at2, show w32 (s + 1 - 1) = s from by rw [w32_id (by omega) (by omega)]; omega, hT2, hTs]
    have nxt : Ev (fun q => mRun (mCallN d) kX10_goesOn q 158 [some (mP 96), some (mI j)] [] (SH, ν2, RHO b)) b (fun v ν' => T2 d b was QS v ν') := lp Q C ν2 hr2 hQ (by omega) h
    refine ev_if (by omega) ?_
    rcases hj with ⟨j1, j2⟩ | ⟨j1, j2⟩
    · refine ev_pos j1 (ev_row (fun q => tX10_goesOn_157 _ q b ν2 3) ?_)
      rw [← j2]; exact nxt
    · refine ev_neg (by omega) (ev_row (fun q => tX10_goesOn_157 _ q b ν2 4) ?_)
      rw [← j2]; exact nxt
  refine ev_row (fun q => tX10_goesOn_118 _ q b ν1) (ev_callP (sX10_takesSign hT 42 (by decide) b ν1 hr1.2.1 d (by omega)) (fun v ν2 ⟨f2, hc⟩ => ?_))
  rcases hc with ⟨c1, c2, c3, c4⟩ | ⟨c1, c2, c3, c4⟩
  · exact ev_neg (by show ¬ v = 0; omega) (r136 ν2 (RX_lex hr1 (fgl f2 (by decide)) c3) c4)
  · have hr2 := RX_lex hr1 (fgl f2 (by decide)) c3
    refine ev_pos (show v = 0 from c2) (ev_callP (sX10_takesSign hT 47 (by decide) b ν2 c3 d (by omega)) (fun v' ν3 ⟨f3, hc3⟩ => ?_))
    rcases hc3 with ⟨d1, d2, d3, d4⟩ | ⟨d1, d2, d3, d4⟩
    · exact ev_neg (by show ¬ v' = 0; omega) (r136 ν3 (RX_lex hr2 (fgl f3 (by decide)) d3) d4)
    · omega
theorem g_add {d : Nat} (hd : 5 ≤ d) {b : Bool} {T : Int → Int} {n : Int} (hT : Tp T n) {ν0 : Nat → Int → Int} {c0 bs was : Int} (c00 : 0 ≤ c0) {QS : Int → (Nat → Int → Int) → Prop} {W Q : List Int} {m o s j : Int} {g : Bool} {C : List Int} (hl : lastM b T n ν0 c0 bs (W ++ Q.reverse) o m) (hQ : ∀ q ∈ Q, isOp q) (htop : ¬ isOp (topW W)) (hj : (tkS T n s g = 43 ∧ j = 1) ∨ (tkS T n s g = 45 ∧ j = 2)) (h : AH d b T n ν0 c0 bs was QS (W ++ [j]) o (nxS T n s) (nxG T n s g) (C ++ Q)) : AG d b T n ν0 c0 bs was QS (W ++ Q.reverse) o s g C := fun hb ν hr => by
  have hn1 := hT.2.1
  have hv := hr.2.1.2.2.2.2.2.2.1
  have hk : tkK T n s g = 3 := by rcases hj with ⟨q, -⟩ | ⟨q, -⟩ <;> exact tkS_k q (by decide)
  obtain ⟨hsn, hks⟩ := tkK3 hT hv hk
  have hTs : T s = tkS T n s g := by unfold tkS; rw [if_pos hk]
  have hx := nx_in hT hv
  have hlt := hx.2.2.1 hsn
  have hs0 := hv.1
  have hlen : (W ++ Q.reverse).length = W.length + Q.length := by simp
  rw [hlen] at hb
  unfold isOp at htop
  have lp : ∀ (Q C' : List Int) (ν' : Nat → Int → Int), RX T n ν0 c0 bs ν' (nxS T n s) (nxG T n s g) (W ++ Q.reverse) o C' → (∀ q ∈ Q, isOp q) → (W.length : Int) + (Q.length : Int) + c0 + (C'.length : Int) + 4 ≤ s → AH d b T n ν0 c0 bs was QS (W ++ [j]) o (nxS T n s) (nxG T n s g) (C' ++ Q) → Ev (fun q => mRun (mCallN d) kX10_goesOn q 243 [some (mP 96), some (mI j)] [] (SH, ν', RHO b)) b (fun v ν' => T2 d b was QS v ν') := by
    intro Q
    induction Q with
    | nil =>
      intro C' ν' hr' _ hw hA
      rw [show W ++ ([] : List Int).reverse = W by simp] at hr'
      rw [List.append_nil] at hA
      have h3 := hr'.2.2.1
      rw [List.length_nil] at hw
      have e1 := sX10_isOn 1 (by decide) b ν' hr' (by omega) d (by omega)
      have e2 := sX10_isOn 2 (by decide) b ν' hr' (by omega) d (by omega)
      have e3 := sX10_isOn 3 (by decide) b ν' hr' (by omega) d (by omega)
      have e4 := sX10_isOn 4 (by decide) b ν' hr' (by omega) d (by omega)
      rw [t01_neg (by omega)] at e1 e2 e3 e4
      refine ev_row (fun q => tX10_goesOn_243 _ q b ν' j) (ev_call e3 (ev_pos rfl (ev_call e4 (ev_pos rfl (ev_call e1 (ev_pos rfl (ev_call e2 (ev_pos rfl (ev_if (by show 0 ≤ ν' 96 43 ∧ ν' 96 43 < 1700; rw [h3.1]; omega) (ev_ret ?_))))))))))
      dsimp only
      rw [h3.1]
      have e43 : (m2 ν' 127 (W.length : Int) j) 96 43 = (W.length : Int) := by rw [m2_ne (by decide)]; exact h3.1
      rw [e43, w32_id (by omega) (by omega)]
      have hr2 : RX T n ν0 c0 bs (m2 (m2 ν' 127 (W.length : Int) j) 96 43 ((W.length : Int) + 1)) (nxS T n s) (nxG T n s g) (W ++ [j]) o C' := RX_put hr' (fg_m96 (fg_m2 fg_rfl (by decide) (by decide)) (by decide)) ⟨by rw [m2_at, if_pos rfl, List.length_append]; rfl, fun i hi => by
        rw [m2_ne (by decide), m2_at]; exact W_push h3 j i hi⟩ (by rw [m2_at, if_neg (by decide), m2_ne (by decide)]; exact hr'.2.2.2.1)
      exact T2_1 hr2.2.1.1 (hA (by rw [List.length_append]; show ((W.length + 1 : Nat) : Int) + _ + _ + 4 ≤ _; omega) _ hr2)
    | cons q Q ih =>
      intro C' ν' hr' hQ hw hA
      rw [rev_cons_app] at hr'
      rw [List.length_cons] at hw
      have hq := hQ q List.mem_cons_self
      unfold isOp at hq
      have hll : (W ++ Q.reverse).length = W.length + Q.length := by simp
      have e1 := sX10_isOn 1 (by decide) b ν' hr' (by simp; omega) d (by omega)
      have e2 := sX10_isOn 2 (by decide) b ν' hr' (by simp; omega) d (by omega)
      have e3 := sX10_isOn 3 (by decide) b ν' hr' (by simp; omega) d (by omega)
      have e4 := sX10_isOn 4 (by decide) b ν' hr' (by simp; omega) d (by omega)
      rw [topW_app] at e1 e2 e3 e4
      have dr : Ev (fun q => mRun (mCallN d) kX10_goesOn q 275 [some (mP 96), some (mI j)] [] (SH, ν', RHO b)) b (fun v ν' => T2 d b was QS v ν') := ev_row (fun q => tX10_goesOn_275 _ q b ν' j) (ev_callP (sX10_drops b ν' hr' c00 (by rw [hll]; omega) d (by omega)) (fun _ ν2 ⟨a1, a2⟩ => ih (C' ++ [q]) ν2 a1 (fun x hx' => hQ x (List.mem_cons_of_mem _ hx')) (by rw [List.length_append]; show _ + _ + _ + ((C'.length + 1 : Nat) : Int) + 4 ≤ _; omega) (by rw [List.append_assoc]; exact hA)))
      refine ev_row (fun q => tX10_goesOn_243 _ q b ν' j) (ev_call e3 ?_)
      by_cases c3 : q = 3
      · exact ev_neg (by show ¬ t01 (q = 3) = 0; rw [t01_pos c3]; decide) dr
      · refine ev_pos (show t01 (q = 3) = 0 from t01_neg c3) (ev_call e4 ?_)
        by_cases c4 : q = 4
        · exact ev_neg (by show ¬ t01 (q = 4) = 0; rw [t01_pos c4]; decide) dr
        · refine ev_pos (show t01 (q = 4) = 0 from t01_neg c4) (ev_call e1 ?_)
          by_cases c1 : q = 1
          · exact ev_neg (by show ¬ t01 (q = 1) = 0; rw [t01_pos c1]; decide) dr
          · exact ev_pos (show t01 (q = 1) = 0 from t01_neg c1) (ev_call e2 (ev_neg (by show ¬ t01 (q = 2) = 0; rw [t01_pos (by omega)]; decide) dr))
  refine g_fall hd hT hl (by omega) (Or.inl (by omega)) (fun ν1 hr1 => ?_) ν hr
  have r221 : ∀ ν2 : Nat → Int → Int, RX T n ν0 c0 bs ν2 (nxS T n s) (nxG T n s g) (W ++ Q.reverse) o C → ν2 96 2 = s + 1 → Ev (fun q => mRun (mCallN d) kX10_goesOn q 221 [some (mP 96), none] [] (SH, ν2, RHO b)) b (fun v ν' => T2 d b was QS v ν') := fun ν2 hr2 at2 => by
    have hT2 := hr2.2.1.2.2.2.1 s hs0 (by omega)
    refine ev_row (fun q => tX10_goesOn_221 _ q b ν2) ?_
    rw [at2, show w32 (s + 1 - 1) = s from by rw [w32_id (by omega) (by omega)]; omega, hT2, hTs]
    have nxt : Ev (fun q => mRun (mCallN d) kX10_goesOn q 243 [some (mP 96), some (mI j)] [] (SH, ν2, RHO b)) b (fun v ν' => T2 d b was QS v ν') := lp Q C ν2 hr2 hQ (by omega) h
    refine ev_if (by omega) ?_
    rcases hj with ⟨j1, j2⟩ | ⟨j1, j2⟩
    · refine ev_pos j1 (ev_row (fun q => tX10_goesOn_242 _ q b ν2 1) ?_)
      rw [← j2]; exact nxt
    · refine ev_neg (by omega) (ev_row (fun q => tX10_goesOn_242 _ q b ν2 2) ?_)
      rw [← j2]; exact nxt
  refine ev_row (fun q => tX10_goesOn_118 _ q b ν1) (ev_callP (sX10_takesSign hT 42 (by decide) b ν1 hr1.2.1 d (by omega)) (fun v ν2 ⟨f2, hc⟩ => ?_))
  rcases hc with ⟨c1, c2, c3, c4⟩ | ⟨c1, c2, c3, c4⟩
  · omega
  have hr2 := RX_lex hr1 (fgl f2 (by decide)) c3
  refine ev_pos (show v = 0 from c2) (ev_callP (sX10_takesSign hT 47 (by decide) b ν2 c3 d (by omega)) (fun v' ν3 ⟨f3, hc3⟩ => ?_))
  rcases hc3 with ⟨d1, d2, d3, d4⟩ | ⟨d1, d2, d3, d4⟩
  · omega
  have hr3 := RX_lex hr2 (fgl f3 (by decide)) d3
  refine ev_pos (show v' = 0 from d2) (ev_callP (sX10_takesSign hT 43 (by decide) b ν3 d3 d (by omega)) (fun w ν4 ⟨f4, hc4⟩ => ?_))
  rcases hc4 with ⟨i1, i2, i3, i4⟩ | ⟨i1, i2, i3, i4⟩
  · exact ev_neg (by show ¬ w = 0; omega) (r221 ν4 (RX_lex hr3 (fgl f4 (by decide)) i3) i4)
  have hr4 := RX_lex hr3 (fgl f4 (by decide)) i3
  refine ev_pos (show w = 0 from i2) (ev_callP (sX10_takesSign hT 45 (by decide) b ν4 i3 d (by omega)) (fun w' ν5 ⟨f5, hc5⟩ => ?_))
  rcases hc5 with ⟨k1, k2, k3, k4⟩ | ⟨k1, k2, k3, k4⟩
  · exact ev_neg (by show ¬ w' = 0; omega) (r221 ν5 (RX_lex hr4 (fgl f5 (by decide)) k3) k4)
  · omega
/-- no operation stands next -/
theorem g_none {d : Nat} (hd : 5 ≤ d) {b : Bool} {T : Int → Int} {n : Int} (hT : Tp T n) {ν0 : Nat → Int → Int} {c0 bs was : Int} {QS : Int → (Nat → Int → Int) → Prop} {W : List Int} {m o s : Int} {g : Bool} {C : List Int} (hl : lastM b T n ν0 c0 bs W o m) (hw : W.length ≤ 1600) (hn : tkS T n s g ≠ 42 ∧ tkS T n s g ≠ 47 ∧ tkS T n s g ≠ 43 ∧ tkS T n s g ≠ 45) (h322 : (m = 21 ∨ m = 22) → ∀ ν1, RX T n ν0 c0 bs ν1 s g W o C → Ev (fun q => mRun (mCallN d) kX10_goesOn q 322 [some (mP 96), none] [] (SH, ν1, RHO b)) b (fun v ν' => T2 d b was QS v ν')) (hend : m = -1 → ∀ ν1, RX T n ν0 c0 bs ν1 s g W o C → T2 d b was QS 0 ν1) (hbad : m ≠ -1 → ¬ (m = 21 ∨ m = 22) → ∀ ν1 ν2, RX T n ν0 c0 bs ν1 s g W o C → Fg [] lxJ ν1 ν2 → RBd ν2 (1, s) → T2 d b was QS 0 ν2) : ∀ ν, RX T n ν0 c0 bs ν s g W o C → Ev (fun q => mRun (mCallN d) kX10_goesOn q 118 [some (mP 96), none] [] (SH, ν, RHO b)) b (fun v ν' => T2 d b was QS v ν') := fun ν1 hr1 => by
  refine ev_row (fun q => tX10_goesOn_118 _ q b ν1) (ev_callP (sX10_takesSign hT 42 (by decide) b ν1 hr1.2.1 d (by omega)) (fun v ν2 ⟨f2, hc⟩ => ?_))
  rcases hc with ⟨c1, -⟩ | ⟨c1, c2, c3, c4⟩
  · exact absurd c1 hn.1
  have hr2 := RX_lex hr1 (fgl f2 (by decide)) c3
  refine ev_pos (show v = 0 from c2) (ev_callP (sX10_takesSign hT 47 (by decide) b ν2 c3 d (by omega)) (fun v' ν3 ⟨f3, hc3⟩ => ?_))
  rcases hc3 with ⟨d1, -⟩ | ⟨d1, d2, d3, d4⟩
  · exact absurd d1 hn.2.1
  have hr3 := RX_lex hr2 (fgl f3 (by decide)) d3
  refine ev_pos (show v' = 0 from d2) (ev_callP (sX10_takesSign hT 43 (by decide) b ν3 d3 d (by omega)) (fun w ν4 ⟨f4, hc4⟩ => ?_))
  rcases hc4 with ⟨i1, -⟩ | ⟨i1, i2, i3, i4⟩
  · exact absurd i1 hn.2.2.1
  have hr4 := RX_lex hr3 (fgl f4 (by decide)) i3
  refine ev_pos (show w = 0 from i2) (ev_callP (sX10_takesSign hT 45 (by decide) b ν4 i3 d (by omega)) (fun w' ν5 ⟨f5, hc5⟩ => ?_))
  rcases hc5 with ⟨k1, -⟩ | ⟨k1, k2, k3, k4⟩
  · exact absurd k1 hn.2.2.2
  have hr5 := RX_lex hr4 (fgl f5 (by decide)) k3
  have hwl := hl d ν5 s g C (by omega) hr5 hw
  refine ev_pos (show w' = 0 from k2) (ev_call hwl (ev_br (fun e => h322 (Or.inl e) ν5 hr5) (fun e => ev_call hwl (ev_br (fun e2 => h322 (Or.inr e2) ν5 hr5) (fun e2 => ev_call hwl (ev_br (fun e3 => ev_row (fun q => tX10_goesOn_382 _ q b ν5) (ev_ret (hend e3 ν5 hr5))) (fun e3 => ev_pos hr5.2.1.1 ?_)))))))
  dsimp only
  rw [k4]
  have e' : ¬ m = 21 := e
  have e2' : ¬ m = 22 := e2
  exact ev_callP (sX10_fail 1 s (by decide) b ν5 k3 d (by omega)) (fun _ ν6 ⟨f6, l6⟩ => ev_row (fun q => tX10_goesOn_382 _ q b ν6) (ev_ret (hbad e3 (by omega) ν5 ν6 hr5 (fgl f6 (by decide)) l6)))
