/-! ===== the reference's stack of what waits, and its code ===== -/
def rfJ : List Int := [2, 4, 5, 6, 31, 41, 43, 44, 48]
def RX (T : Int → Int) (n : Int) (ν0 : Nat → Int → Int) (c0 bs : Int) (ν : Nat → Int → Int) (s : Int) (g : Bool) (W : List Int) (o : Int) (C : List Int) : Prop := Fg [126, 127] rfJ ν0 ν ∧ RSv T n ν s g ∧ (ν 96 43 = (W.length : Int) ∧ ∀ i : Nat, i < W.length → ν 127 (i : Int) = W.getD i 0) ∧ ν 96 44 = o ∧ (ν 96 41 = c0 + (C.length : Int) ∧ ∀ i : Nat, i < C.length → ν 126 (c0 + (i : Int)) = C.getD i 0) ∧ (∀ x, (x < c0 ∨ 1600 ≤ x) → ν 126 x = ν0 126 x) ∧ ν 96 48 = bs
def RXb (ν0 : Nat → Int → Int) (k : Int) (ν : Nat → Int → Int) (e : Int × Int) : Prop := Fg [126, 127] rfJ ν0 ν ∧ RBd ν e ∧ (∀ x, 1600 ≤ x → ν 126 x = ν0 126 x) ∧ (0 ≤ ν 96 41 ∧ ν 96 41 ≤ 1596 + k)
theorem RX_lex {T : Int → Int} {n : Int} {ν0 : Nat → Int → Int} {c0 bs : Int} {ν ν' : Nat → Int → Int} {s s' : Int} {g g' : Bool} {W : List Int} {o : Int} {C : List Int} (h : RX T n ν0 c0 bs ν s g W o C) (hf : Fg [] lxJ ν ν') (hr : RSv T n ν' s' g') : RX T n ν0 c0 bs ν' s' g' W o C := by
  obtain ⟨h1, h2, h3, h4, h5, h6, h7⟩ := h
  have k126 := hf.1 126 (by simp) (by decide)
  have k127 := hf.1 127 (by simp) (by decide)
  refine ⟨fg_tr h1 hf (by decide) (by decide), hr, ⟨by rw [hf.2 43 (by decide)]; exact h3.1, fun i hi => by rw [k127]; exact h3.2 i hi⟩, by rw [hf.2 44 (by decide)]; exact h4, ⟨by rw [hf.2 41 (by decide)]; exact h5.1, fun i hi => by rw [k126]; exact h5.2 i hi⟩, fun x hx => by rw [k126]; exact h6 x hx, by rw [hf.2 48 (by decide)]; exact h7⟩
theorem RX_bad {T : Int → Int} {n : Int} {ν0 : Nat → Int → Int} {c0 bs : Int} {ν ν' : Nat → Int → Int} {s : Int} {g : Bool} {W : List Int} {o : Int} {C : List Int} {e : Int × Int} (hT : Tp T n) (h : RX T n ν0 c0 bs ν s g W o C) (c00 : 0 ≤ c0) (hb : (W.length : Int) + c0 + (C.length : Int) + 4 ≤ s) (hf : Fg [] lxJ ν ν') (hr : RBd ν' e) : RXb ν0 0 ν' e := by
  obtain ⟨h1, h2, h3, h4, h5, h6, h7⟩ := h
  have k126 := hf.1 126 (by simp) (by decide)
  have hs := h2.2.2.2.2.2.2.1.2.1
  have hn := hT.2.1
  refine ⟨fg_tr h1 hf (by decide) (by decide), hr, fun x hx => by rw [k126]; exact h6 x (Or.inr hx), ?_⟩
  rw [hf.2 41 (by decide), h5.1]
  omega
theorem RXb_up {ν0 : Nat → Int → Int} {k k' : Int} {ν : Nat → Int → Int} {e : Int × Int} (h : RXb ν0 k ν e) (hk : k ≤ k') : RXb ν0 k' ν e := ⟨h.1, h.2.1, h.2.2.1, by have := h.2.2.2; omega⟩
theorem getD_app_l {l k : List Int} {i : Nat} (h : i < l.length) : (l ++ k).getD i 0 = l.getD i 0 := by
  rw [List.getD_eq_getElem?_getD, List.getD_eq_getElem?_getD, List.getElem?_append_left h]
theorem getD_app_at {l k : List Int} {a : Int} : (l ++ a :: k).getD l.length 0 = a := by
  rw [List.getD_eq_getElem?_getD, List.getElem?_append_right (Nat.le_refl _), Nat.sub_self]; rfl
theorem sX10_code {T : Int → Int} {n : Int} {ν0 : Nat → Int → Int} {c0 bs : Int} {s : Int} {g : Bool} {W : List Int} {o : Int} {C : List Int} (y : Int) (b : Bool) (ν : Nat → Int → Int) (h : RX T n ν0 c0 bs ν s g W o C) (c00 : 0 ≤ c0) (hb : c0 + (C.length : Int) < 1600) : ∀ d, 1 ≤ d → Cal d 24 [mP 96, mI y] b ν (fun _ ν' => RX T n ν0 c0 bs ν' s g W o (C ++ [y]) ∧ ν' 96 2 = ν 96 2) := deepC fun d _ => by
  obtain ⟨h1, h2, h3, h4, h5, h6, h7⟩ := h
  refine cal_ev (fun r => call_X10_code d b ν y) (ev_row (fun m => tX10_code_0 _ m b ν y) ?_)
  rw [h5.1, show w32 (0 + (c0 + (C.length : Int))) = c0 + (C.length : Int) from by rw [w32_id (by omega) (by omega)]; omega]
  refine ev_if (by omega) (ev_ret ?_)
  rw [m2_ne (by decide), h5.1, w32_id (by omega) (by omega)]
  refine ⟨⟨fg_m96 (fg_m2 h1 (by decide) (by decide)) (by decide), ?_, ⟨?_, fun i hi => ?_⟩, ?_, ⟨?_, fun i hi => ?_⟩, fun x hx => ?_, ?_⟩, ?_⟩
  · obtain ⟨a1, a2, a3, a4, a5, ⟨p0, p1, p2⟩, a6, a7⟩ := h2
    have hf : Fg [126] [41] ν (m2 (m2 ν 126 (c0 + (C.length : Int)) y) 96 41 (c0 + (C.length : Int) + 1)) := fg_m96 (fg_m2 fg_rfl (by decide) (by decide)) (by decide)
    refine ⟨by rw [hf.2 5 (by decide)]; exact a1, by rw [hf.2 6 (by decide)]; exact a2, by rw [hf.2 3 (by decide)]; exact a3, fun i i0 i1 => by rw [hf.1 97 (by decide) (by decide)]; exact a4 i i0 i1, Rwrd_fg hf (by decide) a5, by rw [hf.2 2 (by decide)]; exact ⟨p0, p1, p2⟩, a6, by rw [hf.2 4 (by decide)]; exact a7⟩
  · rw [m2_at, if_neg (by decide), m2_ne (by decide)]; exact h3.1
  · rw [m2_ne (by decide), m2_ne (by decide)]; exact h3.2 i hi
  · rw [m2_at, if_neg (by decide), m2_ne (by decide)]; exact h4
  · rw [m2_at, if_pos rfl, List.length_append]; show _ = c0 + ((C.length + 1 : Nat) : Int); omega
  · rw [List.length_append] at hi
    have hi' : i < C.length + 1 := hi
    rw [m2_ne (by decide), m2_at]
    by_cases c : i = C.length
    · rw [if_pos (by omega), c, getD_app_at]
    · rw [if_neg (by omega), h5.2 i (by omega), getD_app_l (by omega)]
  · rw [m2_ne (by decide), m2_at, if_neg (by omega)]; exact h6 x hx
  · rw [m2_at, if_neg (by decide), m2_ne (by decide)]; exact h7
  · rw [m2_at, if_neg (by decide), m2_ne (by decide)]
/-- fields of the stack alone -/
theorem RX_put {T : Int → Int} {n : Int} {ν0 : Nat → Int → Int} {c0 bs : Int} {ν ν' : Nat → Int → Int} {s : Int} {g : Bool} {W W' : List Int} {o o' : Int} {C : List Int} (h : RX T n ν0 c0 bs ν s g W o C) (hf : Fg [127] [43, 44] ν ν') (h3 : ν' 96 43 = (W'.length : Int) ∧ ∀ i : Nat, i < W'.length → ν' 127 (i : Int) = W'.getD i 0) (h4 : ν' 96 44 = o') : RX T n ν0 c0 bs ν' s g W' o' C := by
  obtain ⟨h1, h2, -, -, h5, h6, h7⟩ := h
  have k126 := hf.1 126 (by decide) (by decide)
  refine ⟨fg_tr h1 hf (by decide) (by decide), ?_, h3, h4, ⟨by rw [hf.2 41 (by decide)]; exact h5.1, fun i hi => by rw [k126]; exact h5.2 i hi⟩, fun x hx => by rw [k126]; exact h6 x hx, by rw [hf.2 48 (by decide)]; exact h7⟩
  obtain ⟨a1, a2, a3, a4, a5, ⟨p0, p1, p2⟩, a6, a7⟩ := h2
  exact ⟨by rw [hf.2 5 (by decide)]; exact a1, by rw [hf.2 6 (by decide)]; exact a2, by rw [hf.2 3 (by decide)]; exact a3, fun i i0 i1 => by rw [hf.1 97 (by decide) (by decide)]; exact a4 i i0 i1, Rwrd_fg hf (by decide) a5, by rw [hf.2 2 (by decide)]; exact ⟨p0, p1, p2⟩, a6, by rw [hf.2 4 (by decide)]; exact a7⟩
theorem W_push {ν : Nat → Int → Int} {W : List Int} (h : ν 96 43 = (W.length : Int) ∧ ∀ i : Nat, i < W.length → ν 127 (i : Int) = W.getD i 0) (y : Int) : ∀ i : Nat, i < (W ++ [y]).length → (if (i : Int) = (W.length : Int) then y else ν 127 (i : Int)) = (W ++ [y]).getD i 0 := fun i hi => by
  rw [List.length_append] at hi
  have hi' : i < W.length + 1 := hi
  by_cases c : i = W.length
  · rw [if_pos (by omega), c, getD_app_at]
  · rw [if_neg (by omega), h.2 i (by omega), getD_app_l (by omega)]
/-- what stands on top -/
def topW (W : List Int) : Int := if W.length = 0 then -5 else W.getD (W.length - 1) 0
theorem topW_app (W : List Int) (t : Int) : topW (W ++ [t]) = t := by
  unfold topW
  rw [List.length_append, if_neg (by simp)]
  show (W ++ [t]).getD (W.length + 1 - 1) 0 = t
  rw [Nat.add_sub_cancel, getD_app_at]
theorem sX10_isOn {T : Int → Int} {n : Int} {ν0 : Nat → Int → Int} {c0 bs : Int} {s : Int} {g : Bool} {W : List Int} {o : Int} {C : List Int} (v : Int) (v0 : 0 ≤ v) (b : Bool) (ν : Nat → Int → Int) (h : RX T n ν0 c0 bs ν s g W o C) (hw : W.length ≤ 1600) : ∀ d, 1 ≤ d → mCallN d 70 [mP 96, mI v] (SH, ν, RHO b) = some (t01 (topW W = v), SH, ν, RHO b) := deep fun d _ => by
  obtain ⟨h1, h2, h3, h4, h5, h6, h7⟩ := h
  refine cal_eq (cal_ev (fun r => call_X10_isOn d b ν v) (ev_row (fun m => tX10_isOn_0 _ m b ν v) ?_))
  rw [h3.1]
  have no : ¬ topW W = v → Ev (fun m => mRun (mCallN d) kX10_isOn m 26 [some (mP 96), some (mI v)] [] (SH, ν, RHO b)) b (fun v' μ2 => v' = t01 (topW W = v) ∧ μ2 = ν) := fun q => ev_row (fun m => tX10_isOn_26 _ m b ν v) (ev_row (fun m => tX10_isOn_27 _ m b ν v 0) (ev_if (Or.inl rfl) (ev_ret ⟨(t01_neg q).symm, rfl⟩)))
  by_cases c : W.length = 0
  · exact ev_neg (by omega) (no (by unfold topW; rw [if_pos c]; omega))
  · have e : topW W = W.getD (W.length - 1) 0 := by unfold topW; rw [if_neg c]
    refine ev_pos (by omega) ?_
    rw [show w32 ((W.length : Int) - 1) = ((W.length - 1 : Nat) : Int) from by rw [w32_id (by omega) (by omega)]; omega, h3.2 (W.length - 1) (by omega)]
    exact ev_if (by omega) (ev_br (fun q => ev_row (fun m => tX10_isOn_27 _ m b ν v 1) (ev_if (Or.inr rfl) (ev_ret ⟨(t01_pos (by rw [e]; exact q)).symm, rfl⟩))) (fun q => no (by rw [e]; exact q)))
theorem sX10_drops {T : Int → Int} {n : Int} {ν0 : Nat → Int → Int} {c0 bs : Int} {s : Int} {g : Bool} {W : List Int} {o : Int} {C : List Int} {t : Int} (b : Bool) (ν : Nat → Int → Int) (h : RX T n ν0 c0 bs ν s g (W ++ [t]) o C) (c00 : 0 ≤ c0) (hb : (W.length : Int) + c0 + (C.length : Int) < 1600) : ∀ d, 2 ≤ d → Cal d 29 [mP 96] b ν (fun _ ν' => RX T n ν0 c0 bs ν' s g W o (C ++ [t]) ∧ ν' 96 2 = ν 96 2) := deepC fun d hd => by
  have h3 := h.2.2.1
  have hl : ν 96 43 = (W.length : Int) + 1 := by rw [h3.1, List.length_append]; rfl
  refine cal_ev (fun r => call_X10_drops d b ν) (ev_row (fun m => tX10_drops_0 _ m b ν) ?_)
  rw [hl, show w32 ((W.length : Int) + 1 - 1) = (W.length : Int) from by rw [w32_id (by omega) (by omega)]; omega]
  have e1 : (m2 ν 96 43 (W.length : Int)) 96 43 = (W.length : Int) := by rw [m2_at, if_pos rfl]
  have e2 : (m2 ν 96 43 (W.length : Int)) 127 (W.length : Int) = t := by
    rw [m2_ne (by decide), h3.2 W.length (by rw [List.length_append]; exact Nat.lt_succ_self _), getD_app_at]
  rw [e1, e2]
  have hR : RX T n ν0 c0 bs (m2 ν 96 43 (W.length : Int)) s g W o C := RX_put h (fg_m96 fg_rfl (by decide)) ⟨e1, fun i hi => by
    rw [m2_ne (by decide), h3.2 i (by rw [List.length_append]; exact Nat.lt_succ_of_lt hi), getD_app_l hi]⟩ (by rw [m2_at, if_neg (by decide)]; exact h.2.2.2.1)
  refine ev_if (by omega) (ev_callP (sX10_code t b _ hR c00 (by omega) d (by omega)) (fun _ ν' ⟨a1, a2⟩ => ev_ret ⟨a1, ?_⟩))
  show ν' 96 2 = ν 96 2
  rw [a2, m2_at, if_neg (by decide)]
theorem sX10_opens {T : Int → Int} {n : Int} {ν0 : Nat → Int → Int} {c0 bs : Int} {s : Int} {g : Bool} {W : List Int} {o : Int} {C : List Int} (w p : Int) (b : Bool) (ν : Nat → Int → Int) (h : RX T n ν0 c0 bs ν s g W o C) (hw : W.length ≤ 1600) (o0 : 0 ≤ o) (o6 : o < 6) : ∀ d, 2 ≤ d → Cal d 98 [mP 96, mI w, mI p] b ν (fun _ ν' => RX T n ν0 c0 bs ν' s g (W ++ [w]) (o + 1) C ∧ ν' 96 2 = ν 96 2) := deepC fun d hd => by
  have h3 := h.2.2.1
  have h4 := h.2.2.2.1
  refine cal_ev (fun r => call_X10_opens d b ν w p) (ev_row (fun m => tX10_opens_0 _ m b ν w p) ?_)
  rw [h4, w32_id (by omega) (by omega)]
  have e1 : (m2 ν 96 44 (o + 1)) 96 43 = (W.length : Int) := by rw [m2_at, if_neg (by decide)]; exact h3.1
  have e2 : (m2 (m2 ν 96 44 (o + 1)) 127 (W.length : Int) w) 96 43 = (W.length : Int) := by rw [m2_ne (by decide)]; exact e1
  rw [e1, e2, w32_id (by omega) (by omega)]
  refine ev_neg (by omega) (ev_if (by omega) (ev_ret ⟨RX_put h (fg_m96 (fg_m2 (fg_m96 fg_rfl (by decide)) (by decide) (by decide)) (by decide)) ⟨?_, fun i hi => ?_⟩ ?_, ?_⟩))
  · rw [m2_at, if_pos rfl, List.length_append]; rfl
  · rw [m2_ne (by decide), m2_at, m2_ne (by decide)]
    exact W_push h3 w i hi
  · rw [m2_at, if_neg (by decide), m2_ne (by decide), m2_at, if_pos rfl]
  · rw [m2_at, if_neg (by decide), m2_ne (by decide), m2_at, if_neg (by decide)]
theorem sX10_opens_bad {T : Int → Int} {n : Int} {ν0 : Nat → Int → Int} {c0 bs : Int} {s : Int} {g : Bool} {W : List Int} {o : Int} {C : List Int} (w p : Int) (b : Bool) (ν : Nat → Int → Int) (h : RX T n ν0 c0 bs ν s g W o C) (o6 : o = 6) : ∀ d, 2 ≤ d → Cal d 98 [mP 96, mI w, mI p] b ν (fun _ ν' => Fg [] [5, 6] ν ν' ∧ RBd ν' (4, p)) := deepC fun d hd => by
  have h4 := h.2.2.2.1
  refine cal_ev (fun r => call_X10_opens d b ν w p) (ev_row (fun m => tX10_opens_0 _ m b ν w p) (ev_pos (by rw [h4]; exact o6) (ev_callP (sX10_fail 4 p (by decide) b ν h.2.1 d (by omega)) (fun _ ν' a => ev_ret a))))
theorem sX10_isMark (v : Int) (b : Bool) (ν : Nat → Int → Int) : ∀ d, 1 ≤ d → mCallN d 69 [mP 96, mI v] (SH, ν, RHO b) = some (t01 (20 ≤ v ∧ v ≤ 24), SH, ν, RHO b) := deep fun d _ => by
  refine cal_eq (cal_ev (fun r => call_X10_isMark d b ν v) (ev_row (fun m => tX10_isMark_0 _ m b ν v) ?_))
  have no : ¬ (20 ≤ v ∧ v ≤ 24) → Ev (fun m => mRun (mCallN d) kX10_isMark m 16 [some (mP 96), some (mI v)] [] (SH, ν, RHO b)) b (fun v' μ2 => v' = t01 (20 ≤ v ∧ v ≤ 24) ∧ μ2 = ν) := fun q => ev_row (fun m => tX10_isMark_16 _ m b ν v) (ev_row (fun m => tX10_isMark_17 _ m b ν v 0) (ev_if (Or.inl rfl) (ev_ret ⟨(t01_neg q).symm, rfl⟩)))
  exact ev_br (fun e => no (by omega)) (fun e => ev_br (fun e2 => no (by omega)) (fun e2 => ev_row (fun m => tX10_isMark_17 _ m b ν v 1) (ev_if (Or.inr rfl) (ev_ret ⟨(t01_pos (by omega)).symm, rfl⟩))))
/-- operations of sums -/
def isOp (v : Int) : Prop := 1 ≤ v ∧ v ≤ 4
/-- the last mark above a base, seen from the top: Q the operations above it, first the topmost -/
theorem sX10_waitsLast {T : Int → Int} {n : Int} {ν0 : Nat → Int → Int} {c0 bs : Int} {s : Int} {g : Bool} {W0 Q : List Int} {o : Int} {C : List Int} {m : Int} (b : Bool) (ν : Nat → Int → Int) (h : RX T n ν0 c0 bs ν s g (W0 ++ [m] ++ Q.reverse) o C) (hw : W0.length + 1 + Q.length ≤ 1600) (hb0 : 0 ≤ bs) (hb : bs ≤ (W0.length : Int)) (hm : 20 ≤ m ∧ m ≤ 24) (hQ : ∀ q ∈ Q, isOp q) : ∀ d, 2 ≤ d → mCallN d 130 [mP 96] (SH, ν, RHO b) = some (m, SH, ν, RHO b) := deep fun d hd => by
  have h3 := h.2.2.1
  have h48 := h.2.2.2.2.2.2
  have hlen : ν 96 43 = (W0.length : Int) + 1 + (Q.length : Int) := by
    rw [h3.1, List.length_append, List.length_append, List.length_reverse]; show ((W0.length + 1 + Q.length : Nat) : Int) = _; omega
  refine cal_eq (cal_ev (fun r => call_X10_waitsLast d b ν) (ev_row (fun q => tX10_waitsLast_0 _ q b ν) ?_))
  rw [hlen]
  have at34 : Ev (fun q => mRun (mCallN d) kX10_waitsLast q 34 [some (mP 96), some (mI (W0.length : Int))] [] (SH, ν, RHO b)) b (fun v' μ2 => v' = m ∧ μ2 = ν) := by
    refine ev_row (fun q => tX10_waitsLast_34 _ q b ν _) ?_
    rw [h48, h3.2 W0.length (by simp), List.append_assoc, show [m] ++ Q.reverse = m :: Q.reverse from rfl, getD_app_at]
    exact ev_neg (by omega) (ev_if (by omega) (ev_row (fun q => tX10_waitsLast_52 _ q b ν _ m) (ev_ret ⟨rfl, rfl⟩)))
  have lp : ∀ (k : Nat), k ≤ Q.length → Ev (fun q => mRun (mCallN d) kX10_waitsLast q 7 [some (mP 96), some (mI ((W0.length : Int) + (k : Int)))] [] (SH, ν, RHO b)) b (fun v' μ2 => v' = m ∧ μ2 = ν) := by
    intro k
    induction k with
    | zero =>
      intro _
      refine ev_row (fun q => tX10_waitsLast_7 _ q b ν _) ?_
      rw [h48, show (W0.length : Int) + ((0 : Nat) : Int) = (W0.length : Int) by omega, h3.2 W0.length (by simp), List.append_assoc, show [m] ++ Q.reverse = m :: Q.reverse from rfl, getD_app_at]
      refine ev_neg (by omega) (ev_if (by omega) (ev_call (sX10_isMark m b ν d (by omega)) (ev_neg ?_ at34)))
      show ¬ t01 (20 ≤ m ∧ m ≤ 24) = 0
      rw [t01_pos hm]; decide
    | succ k ih =>
      intro hk
      have hv : (W0 ++ [m] ++ Q.reverse).getD (W0.length + (k + 1)) 0 ∈ Q := by
        rw [List.getD_eq_getElem?_getD, List.getElem?_append_right (by simp), show W0.length + (k + 1) - (W0 ++ [m]).length = k by simp; omega, List.getElem?_eq_getElem (by rw [List.length_reverse]; omega)]
        exact List.mem_reverse.1 (List.getElem_mem _)
      have hop := hQ _ hv
      refine ev_row (fun q => tX10_waitsLast_7 _ q b ν _) ?_
      rw [h48, show (W0.length : Int) + ((k + 1 : Nat) : Int) = ((W0.length + (k + 1) : Nat) : Int) by omega, h3.2 (W0.length + (k + 1)) (by simp; omega)]
      refine ev_neg (by omega) (ev_if (by omega) (ev_call (sX10_isMark _ b ν d (by omega)) (ev_pos ?_ ?_)))
      · exact t01_neg (by unfold isOp at hop; omega)
      · dsimp only
        rw [show w32 (((W0.length + (k + 1) : Nat) : Int) + (-1)) = (W0.length : Int) + (k : Int) from by rw [w32_id (by omega) (by omega)]; omega]
        exact ih (by omega)
  rw [show w32 ((W0.length : Int) + 1 + (Q.length : Int) - 1) = (W0.length : Int) + (Q.length : Int) from by rw [w32_id (by omega) (by omega)]; omega]
  exact lp Q.length (Nat.le_refl _)
theorem sX10_waitsLast_no {T : Int → Int} {n : Int} {ν0 : Nat → Int → Int} {c0 bs : Int} {s : Int} {g : Bool} {B Q : List Int} {o : Int} {C : List Int} (b : Bool) (ν : Nat → Int → Int) (h : RX T n ν0 c0 bs ν s g (B ++ Q.reverse) o C) (hw : B.length + Q.length ≤ 1600) (hb : bs = (B.length : Int)) (hQ : ∀ q ∈ Q, isOp q) : ∀ d, 2 ≤ d → mCallN d 130 [mP 96] (SH, ν, RHO b) = some (-1, SH, ν, RHO b) := deep fun d hd => by
  have h3 := h.2.2.1
  have h48 := h.2.2.2.2.2.2
  have hlen : ν 96 43 = (B.length : Int) + (Q.length : Int) := by
    rw [h3.1, List.length_append, List.length_reverse]; show ((B.length + Q.length : Nat) : Int) = _; omega
  refine cal_eq (cal_ev (fun r => call_X10_waitsLast d b ν) (ev_row (fun q => tX10_waitsLast_0 _ q b ν) ?_))
  rw [hlen]
  have lp : ∀ (k : Nat), k ≤ Q.length → Ev (fun q => mRun (mCallN d) kX10_waitsLast q 7 [some (mP 96), some (mI ((B.length : Int) + (k : Int) - 1))] [] (SH, ν, RHO b)) b (fun v' μ2 => v' = -1 ∧ μ2 = ν) := by
    intro k
    induction k with
    | zero =>
      intro _
      refine ev_row (fun q => tX10_waitsLast_7 _ q b ν _) ?_
      rw [h48]
      refine ev_pos (by omega) (ev_row (fun q => tX10_waitsLast_34 _ q b ν _) ?_)
      rw [h48]
      exact ev_pos (by omega) (ev_row (fun q => tX10_waitsLast_52 _ q b ν _ (-1)) (ev_ret ⟨rfl, rfl⟩))
    | succ k ih =>
      intro hk
      have hv : (B ++ Q.reverse).getD (B.length + k) 0 ∈ Q := by
        rw [List.getD_eq_getElem?_getD, List.getElem?_append_right (by omega), show B.length + k - B.length = k by omega, List.getElem?_eq_getElem (by rw [List.length_reverse]; omega)]
        exact List.mem_reverse.1 (List.getElem_mem _)
      have hop := hQ _ hv
      refine ev_row (fun q => tX10_waitsLast_7 _ q b ν _) ?_
      rw [h48, show (B.length : Int) + ((k + 1 : Nat) : Int) - 1 = ((B.length + k : Nat) : Int) by omega, h3.2 (B.length + k) (by simp; omega)]
      refine ev_neg (by omega) (ev_if (by omega) (ev_call (sX10_isMark _ b ν d (by omega)) (ev_pos ?_ ?_)))
      · exact t01_neg (by unfold isOp at hop; omega)
      · dsimp only
        rw [show w32 (((B.length + k : Nat) : Int) + (-1)) = (B.length : Int) + (k : Int) - 1 from by rw [w32_id (by omega) (by omega)]; omega]
        exact ih (by omega)
  rw [show w32 ((B.length : Int) + (Q.length : Int) - 1) = (B.length : Int) + (Q.length : Int) - 1 from w32_id (by omega) (by omega)]
  exact lp Q.length (Nat.le_refl _)
theorem rev_cons_app (W : List Int) (q : Int) (Q : List Int) : W ++ (q :: Q).reverse = W ++ Q.reverse ++ [q] := by rw [List.reverse_cons, List.append_assoc]
theorem sX10_dropsToMark {T : Int → Int} {n : Int} {ν0 : Nat → Int → Int} {c0 bs : Int} {s : Int} {g : Bool} {W0 : List Int} {o : Int} {m : Int} (b : Bool) (c00 : 0 ≤ c0) (hb0 : 0 ≤ bs) (hb : bs ≤ (W0.length : Int)) (hm : 20 ≤ m ∧ m ≤ 24) {Q C : List Int} (ν : Nat → Int → Int) (h : RX T n ν0 c0 bs ν s g (W0 ++ [m] ++ Q.reverse) o C) (hw : (W0.length : Int) + 1 + (Q.length : Int) + c0 + (C.length : Int) ≤ 1600) (hQ : ∀ q ∈ Q, isOp q) : ∀ d, 3 ≤ d → Cal d 31 [mP 96] b ν (fun _ ν' => RX T n ν0 c0 bs ν' s g (W0 ++ [m]) o (C ++ Q) ∧ ν' 96 2 = ν 96 2) := deepC fun d hd => by
  refine cal_ev (fun r => call_X10_dropsToMark d b ν) ?_
  have lp : ∀ (Q C : List Int) (ν' : Nat → Int → Int), RX T n ν0 c0 bs ν' s g (W0 ++ [m] ++ Q.reverse) o C → (W0.length : Int) + 1 + (Q.length : Int) + c0 + (C.length : Int) ≤ 1600 → (∀ q ∈ Q, isOp q) → ν' 96 2 = ν 96 2 → Ev (fun q => mRun (mCallN d) kX10_dropsToMark q 0 [some (mP 96)] [] (SH, ν', RHO b)) b (fun _ ν' => RX T n ν0 c0 bs ν' s g (W0 ++ [m]) o (C ++ Q) ∧ ν' 96 2 = ν 96 2) := by
    intro Q
    induction Q with
    | nil =>
      intro C ν' h hw _ ha
      have h3 := h.2.2.1
      have h48 := h.2.2.2.2.2.2
      have hlen : ν' 96 43 = (W0.length : Int) + 1 := by
        rw [h3.1]; simp
      refine ev_row (fun q => tX10_dropsToMark_0 _ q b ν') ?_
      rw [h48, hlen, show w32 ((W0.length : Int) + 1 - 1) = (W0.length : Int) from by rw [w32_id (by omega) (by omega)]; omega, h3.2 W0.length (by simp), List.append_assoc, show [m] ++ ([] : List Int).reverse = m :: [] from rfl, getD_app_at]
      refine ev_pos (by omega) (ev_if (by omega) (ev_call (sX10_isMark m b ν' d (by omega)) (ev_neg ?_ (ev_row (fun q => tX10_dropsToMark_36 _ q b ν') (ev_ret ⟨?_, ha⟩)))))
      · show ¬ t01 (20 ≤ m ∧ m ≤ 24) = 0
        rw [t01_pos hm]; decide
      · have h' := h
        rw [show W0 ++ [m] ++ ([] : List Int).reverse = W0 ++ [m] by simp] at h'
        rw [List.append_nil]; exact h'
    | cons q Q ih =>
      intro C ν' h hw hQ ha
      rw [rev_cons_app] at h
      have h3 := h.2.2.1
      have h48 := h.2.2.2.2.2.2
      have hop := hQ q List.mem_cons_self
      rw [List.length_cons] at hw
      have hlen : ν' 96 43 = (W0.length : Int) + 1 + (Q.length : Int) + 1 := by
        rw [h3.1]; simp; omega
      have hll : (W0 ++ [m] ++ Q.reverse).length = W0.length + 1 + Q.length := by simp; omega
      refine ev_row (fun q => tX10_dropsToMark_0 _ q b ν') ?_
      rw [h48, hlen, show w32 ((W0.length : Int) + 1 + (Q.length : Int) + 1 - 1) = ((W0.length + 1 + Q.length : Nat) : Int) from by rw [w32_id (by omega) (by omega)]; omega, h3.2 (W0.length + 1 + Q.length) (by simp; omega), ← hll, getD_app_at]
      refine ev_pos (by omega) (ev_if (by rw [hll]; omega) (ev_call (sX10_isMark q b ν' d (by omega)) (ev_pos (t01_neg (by unfold isOp at hop; omega)) ?_)))
      refine ev_callP (sX10_drops b ν' h c00 (by rw [hll]; omega) d (by omega)) (fun _ ν2 ⟨a1, a2⟩ => ?_)
      have := ih (C ++ [q]) ν2 a1 (by rw [List.length_append]; show _ + ((C.length + 1 : Nat) : Int) ≤ 1600; omega) (fun x hx => hQ x (List.mem_cons_of_mem _ hx)) (by rw [a2]; exact ha)
      rw [List.append_assoc] at this
      exact this
  exact lp Q C ν h hw hQ rfl
