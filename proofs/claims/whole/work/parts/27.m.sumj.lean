/-! ===== sums: class and reference come to one ===== -/
def LM (b : Bool) (T : Int → Int) (n : Int) (ν0 : Nat → Int → Int) (c0 bs : Int) (W : List Int) (m : Int) : Prop := ∀ (o : Int) (Q : List Int), (∀ q ∈ Q, isOp q) → lastM b T n ν0 c0 bs (W ++ Q.reverse) o m
theorem LM_op {b : Bool} {T : Int → Int} {n : Int} {ν0 : Nat → Int → Int} {c0 bs : Int} {W : List Int} {m j : Int} (h : LM b T n ν0 c0 bs W m) (hj : isOp j) : LM b T n ν0 c0 bs (W ++ [j]) m := fun o Q hQ => by
  have := h o (Q ++ [j]) (fun q hq => by
    rcases List.mem_append.1 hq with q1 | q1
    · exact hQ q q1
    · rw [List.mem_singleton.1 q1]; exact hj)
  rw [List.reverse_append] at this
  rw [List.append_assoc]
  exact this
theorem jL_rev (j : Int) : (jL j).reverse = jL j := by
  unfold jL
  by_cases c : j = 0
  · rw [if_pos c]; rfl
  · rw [if_neg c]; rfl
theorem LM_jL {b : Bool} {T : Int → Int} {n : Int} {ν0 : Nat → Int → Int} {c0 bs : Int} {W : List Int} {m j : Int} (h : LM b T n ν0 c0 bs W m) (hj : j = 0 ∨ isOp j) : LM b T n ν0 c0 bs (W ++ jL j) m := by
  unfold jL
  by_cases c : j = 0
  · rw [if_pos c, List.append_nil]; exact h
  · rw [if_neg c]; exact LM_op h (hj.resolve_left c)
theorem mem_jL {j q : Int} (h : q ∈ jL j) : q = j ∧ j ≠ 0 := by
  unfold jL at h
  by_cases c : j = 0
  · rw [if_pos c] at h; exact absurd h (by simp)
  · rw [if_neg c] at h; exact ⟨List.mem_singleton.1 h, c⟩
theorem topW_jL {W : List Int} {j : Int} : topW (W ++ jL j) = if j = 0 then topW W else j := by
  unfold jL
  by_cases c : j = 0
  · rw [if_pos c, if_pos c, List.append_nil]
  · rw [if_neg c, if_neg c, topW_app]
/-- the reference reads a part -/
def RPt (b : Bool) (T : Int → Int) (n o s : Int) (g : Bool) (r : CR) : Prop := ∀ (d : Nat) (ν0 : Nat → Int → Int) (c0 bs was : Int) (QS : Int → (Nat → Int → Int) → Prop), 5 ≤ d → 0 ≤ c0 → 0 ≤ bs → ∀ (W C : List Int), bs ≤ (W.length : Int) → (match r with
  | .inl e => HB ν0 was QS e → AH d b T n ν0 c0 bs was QS W o s g C
  | .inr (L, s', g') => AG d b T n ν0 c0 bs was QS W o s' g' (C ++ L) → AH d b T n ν0 c0 bs was QS W o s g C)
/-- the reference reads a chain of a level, with a joint that waits -/
def RLp (b : Bool) (T : Int → Int) (n lv j o s : Int) (g : Bool) (r : CR) : Prop := ∀ (d : Nat) (ν0 : Nat → Int → Int) (c0 bs was : Int) (QS : Int → (Nat → Int → Int) → Prop), 5 ≤ d → 0 ≤ c0 → 0 ≤ bs → ∀ (W C : List Int) (m : Int), bs ≤ (W.length : Int) → LM b T n ν0 c0 bs W m → (if lv = 3 then topW W ≠ 3 ∧ topW W ≠ 4 else ¬ isOp (topW W)) → (match r with
  | .inl e => HB ν0 was QS e → AH d b T n ν0 c0 bs was QS (W ++ jL j) o s g C
  | .inr (L, s', g') => (∀ E Q : List Int, E ++ Q = L → (∀ q ∈ Q, if lv = 3 then q = 3 ∨ q = 4 else isOp q) → AG d b T n ν0 c0 bs was QS (W ++ Q.reverse) o s' g' (C ++ E)) → AH d b T n ν0 c0 bs was QS (W ++ jL j) o s g C)
theorem rf_loop3 {b : Bool} {T : Int → Int} {n : Int} (hT : Tp T n) {j o s : Int} {g : Bool} (hj : j = 0 ∨ j = 3 ∨ j = 4) (ro rl : CR) (hp : RPt b T n o s g ro) (hl : ∀ L s1 g1, ro = .inr (L, s1, g1) → jnt T n s1 g1 3 ≠ 0 → RLp b T n 3 (jnt T n s1 g1 3) o (nxS T n s1) (nxG T n s1 g1) rl) : RLp b T n 3 j o s g (lpR T n 3 j ro rl) := fun d ν0 c0 bs was QS hd c00 hb0 W C m hbs hLM htop => by
  rw [if_pos rfl] at htop
  have hopj : j = 0 ∨ isOp j := by unfold isOp; omega
  have hp' := hp d ν0 c0 bs was QS hd c00 hb0 (W ++ jL j) C (by rw [List.length_append]; omega)
  rcases hro : ro with e | ⟨L, s1, g1⟩
  · rw [hro] at hp'
    exact hp'
  · rw [hro] at hp'
    have hlp : lpR T n 3 j (.inr (L, s1, g1)) rl = if jnt T n s1 g1 3 = 0 then .inr (L ++ jL j, s1, g1) else pre (L ++ jL j) rl := rfl
    rw [hlp]
    by_cases c : jnt T n s1 g1 3 = 0
    · rw [if_pos c]
      intro hK
      refine hp' ?_
      have := hK L (jL j) rfl (fun q hq => by rw [if_pos rfl]; have := mem_jL hq; omega)
      rw [jL_rev] at this
      exact this
    · rw [if_neg c]
      have hjj : (tkS T n s1 g1 = 42 ∧ jnt T n s1 g1 3 = 3) ∨ (tkS T n s1 g1 = 47 ∧ jnt T n s1 g1 3 = 4) := by
        unfold jnt at c ⊢
        rw [if_neg (by decide), if_neg (by decide), if_neg (by decide)] at c ⊢
        by_cases q1 : tkS T n s1 g1 = 42
        · rw [if_pos q1]; exact Or.inl ⟨q1, rfl⟩
        · rw [if_neg q1] at c ⊢
          by_cases q2 : tkS T n s1 g1 = 47
          · rw [if_pos q2]; exact Or.inr ⟨q2, rfl⟩
          · rw [if_neg q2] at c; exact absurd rfl c
      have hl' := hl L s1 g1 hro c d ν0 c0 bs was QS hd c00 hb0 W (C ++ L ++ jL j) m hbs hLM (by rw [if_pos rfl]; exact htop)
      have hjL1 : jL (jnt T n s1 g1 3) = [jnt T n s1 g1 3] := by unfold jL; rw [if_neg c]
      rw [hjL1] at hl'
      have step : AH d b T n ν0 c0 bs was QS (W ++ [jnt T n s1 g1 3]) o (nxS T n s1) (nxG T n s1 g1) (C ++ L ++ jL j) → AH d b T n ν0 c0 bs was QS (W ++ jL j) o s g C := fun hA => hp' (by
        have hm := g_mul (Q := jL j) (C := C ++ L) hd hT c00 (hLM o (jL j) (fun q hq => by have := mem_jL hq; unfold isOp; omega)) (fun q hq => by have := mem_jL hq; omega) htop hjj hA
        rw [jL_rev] at hm
        exact hm)
      rcases rl with e | ⟨L2, s2, g2⟩
      · intro hB; exact step (hl' hB)
      · intro hK
        refine step (hl' (fun E Q hE hQ => ?_))
        have := hK (L ++ jL j ++ E) Q (by rw [List.append_assoc, hE]) hQ
        rw [← List.append_assoc, ← List.append_assoc] at this
        exact this
theorem rf_loop2 {b : Bool} {T : Int → Int} {n : Int} (hT : Tp T n) {j o s : Int} {g : Bool} (hj : j = 0 ∨ j = 1 ∨ j = 2) (ro rl : CR) (hp : RLp b T n 3 0 o s g ro) (hl : ∀ L s1 g1, ro = .inr (L, s1, g1) → jnt T n s1 g1 2 ≠ 0 → RLp b T n 2 (jnt T n s1 g1 2) o (nxS T n s1) (nxG T n s1 g1) rl) : RLp b T n 2 j o s g (lpR T n 2 j ro rl) := fun d ν0 c0 bs was QS hd c00 hb0 W C m hbs hLM htop => by
  rw [if_neg (by decide)] at htop
  have hopj : j = 0 ∨ isOp j := by unfold isOp; omega
  have hp' := hp d ν0 c0 bs was QS hd c00 hb0 (W ++ jL j) C m (by rw [List.length_append]; omega) (LM_jL hLM hopj) (by
    rw [if_pos rfl, topW_jL]
    unfold isOp at htop
    by_cases q : j = 0
    · rw [if_pos q]; omega
    · rw [if_neg q]; omega)
  rw [show jL 0 = [] from rfl, List.append_nil] at hp'
  rcases hro : ro with e | ⟨L, s1, g1⟩
  · rw [hro] at hp'
    exact hp'
  · rw [hro] at hp'
    have hlp : lpR T n 2 j (.inr (L, s1, g1)) rl = if jnt T n s1 g1 2 = 0 then .inr (L ++ jL j, s1, g1) else pre (L ++ jL j) rl := rfl
    rw [hlp]
    have rev2 : ∀ Q3 : List Int, W ++ jL j ++ Q3.reverse = W ++ (Q3 ++ jL j).reverse := fun Q3 => by rw [List.reverse_append, jL_rev, List.append_assoc]
    have opQ : ∀ Q3 : List Int, (∀ q ∈ Q3, if (3 : Int) = 3 then q = 3 ∨ q = 4 else isOp q) → ∀ q ∈ Q3 ++ jL j, isOp q := fun Q3 h3 q hq => by
      rcases List.mem_append.1 hq with q1 | q1
      · have := h3 q q1
        rw [if_pos rfl] at this
        unfold isOp; omega
      · have := mem_jL q1
        unfold isOp; omega
    by_cases c : jnt T n s1 g1 2 = 0
    · rw [if_pos c]
      intro hK
      refine hp' (fun E Q3 hE h3 => ?_)
      rw [rev2 Q3]
      exact hK E (Q3 ++ jL j) (by rw [← List.append_assoc, hE]) (fun q hq => by rw [if_neg (by decide)]; exact opQ Q3 h3 q hq)
    · rw [if_neg c]
      have hjj : (tkS T n s1 g1 = 43 ∧ jnt T n s1 g1 2 = 1) ∨ (tkS T n s1 g1 = 45 ∧ jnt T n s1 g1 2 = 2) := by
        unfold jnt at c ⊢
        rw [if_neg (by decide), if_neg (by decide), if_pos rfl] at c ⊢
        by_cases q1 : tkS T n s1 g1 = 43
        · rw [if_pos q1]; exact Or.inl ⟨q1, rfl⟩
        · rw [if_neg q1] at c ⊢
          by_cases q2 : tkS T n s1 g1 = 45
          · rw [if_pos q2]; exact Or.inr ⟨q2, rfl⟩
          · rw [if_neg q2] at c; exact absurd rfl c
      have hl' := hl L s1 g1 hro c d ν0 c0 bs was QS hd c00 hb0 W (C ++ L ++ jL j) m hbs hLM (by rw [if_neg (by decide)]; exact htop)
      have hjL1 : jL (jnt T n s1 g1 2) = [jnt T n s1 g1 2] := by unfold jL; rw [if_neg c]
      rw [hjL1] at hl'
      have step : AH d b T n ν0 c0 bs was QS (W ++ [jnt T n s1 g1 2]) o (nxS T n s1) (nxG T n s1 g1) (C ++ L ++ jL j) → AH d b T n ν0 c0 bs was QS (W ++ jL j) o s g C := fun hA => hp' (fun E Q3 hE h3 => by
        rw [rev2 Q3]
        refine g_add (C := C ++ E) hd hT c00 (hLM o (Q3 ++ jL j) (opQ Q3 h3)) (opQ Q3 h3) htop hjj ?_
        rw [show C ++ E ++ (Q3 ++ jL j) = C ++ L ++ jL j from by rw [← hE, List.append_assoc, List.append_assoc, List.append_assoc]]
        exact hA)
      rcases rl with e | ⟨L2, s2, g2⟩
      · intro hB; exact step (hl' hB)
      · intro hK
        refine step (hl' (fun E Q hE hQ => ?_))
        have := hK (L ++ jL j ++ E) Q (by rw [List.append_assoc, hE]) hQ
        rw [← List.append_assoc, ← List.append_assoc] at this
        exact this
/-! brackets, in the reference -/
theorem nx0 {T : Int → Int} {n s : Int} {g : Bool} (hT : Tp T n) (hv : VC T n s) {c : Int} (h : tkS T n s g = c) (hc : c ≠ -1) : s < n := (tkK3 hT hv (tkS_k h hc)).1
def fin2 (T : Int → Int) (n s : Int) (g : Bool) : Prop := tkS T n s g ≠ 42 ∧ tkS T n s g ≠ 47 ∧ tkS T n s g ≠ 43 ∧ tkS T n s g ≠ 45
theorem fin2_of {T : Int → Int} {n s : Int} {g : Bool} (h2 : jnt T n s g 2 = 0) (h3 : jnt T n s g 3 = 0) : fin2 T n s g := by
  unfold jnt at h2 h3
  rw [if_neg (by decide), if_neg (by decide), if_pos rfl] at h2
  rw [if_neg (by decide), if_neg (by decide), if_neg (by decide)] at h3
  unfold fin2
  refine ⟨fun q => ?_, fun q => ?_, fun q => ?_, fun q => ?_⟩
  · rw [if_pos q] at h3; exact absurd h3 (by decide)
  · rw [if_neg (by omega), if_pos q] at h3; exact absurd h3 (by decide)
  · rw [if_pos q] at h2; exact absurd h2 (by decide)
  · rw [if_neg (by omega), if_pos q] at h2; exact absurd h2 (by decide)
/-- behind a sum in an open bracket that can be closed -/
theorem g_shut {d : Nat} (hd : 5 ≤ d) {b : Bool} {T : Int → Int} {n : Int} (hT : Tp T n) {ν0 : Nat → Int → Int} {c0 bs was : Int} (c00 : 0 ≤ c0) (hb0 : 0 ≤ bs) {QS : Int → (Nat → Int → Int) → Prop} {W Q : List Int} {m o s : Int} {g : Bool} {C : List Int} (hbs : bs ≤ (W.length : Int)) (hm : m = 20 ∨ m = 23 ∨ m = 24) (hQ : ∀ q ∈ Q, isOp q) (o1 : 1 ≤ o) (o6 : o ≤ 6) (hf : fin2 T n s g) (h : tkS T n s g = 41 → AG d b T n ν0 c0 bs was QS W (o - 1) (nxS T n s) (nxG T n s g) (C ++ Q ++ (if m = 20 then [] else if m = 23 then [5] else [6]))) (hB : tkS T n s g ≠ 41 → HB ν0 was QS (1, s)) : AG d b T n ν0 c0 bs was QS (W ++ [m] ++ Q.reverse) o s g C := by
  by_cases c : tkS T n s g = 41
  · exact g_close hd hT c00 hb0 hbs hm hQ o1 o6 c (h c)
  · intro hb ν hr
    have hn1 := hT.2.1
    have hs1 := hr.2.1.2.2.2.2.2.2.1.2.1
    have hl := lastM_in (b := b) (T := T) (n := n) (ν0 := ν0) (c0 := c0) (o := o) hb0 hbs (by omega : 20 ≤ m ∧ m ≤ 24) hQ
    refine g_fall hd hT hl (by omega) (Or.inl c) (fun ν1 hr1 => ?_) ν hr
    refine g_none hd hT hl (by omega) hf (fun h2 => by omega) (fun h2 => by omega) (fun _ _ ν2 ν3 hr2 f3 l3 => T2_bad l3 (hB c ν3 (RXb_up (RX_bad hT hr2 c00 hb f3 l3) (by decide)))) ν1 hr1
/-- behind the first of two sums -/
theorem g_comma {d : Nat} (hd : 5 ≤ d) {b : Bool} {T : Int → Int} {n : Int} (hT : Tp T n) {ν0 : Nat → Int → Int} {c0 bs was : Int} (c00 : 0 ≤ c0) (hb0 : 0 ≤ bs) {QS : Int → (Nat → Int → Int) → Prop} {W Q : List Int} {m o s : Int} {g : Bool} {C : List Int} (hbs : bs ≤ (W.length : Int)) (hm : m = 21 ∨ m = 22) (hQ : ∀ q ∈ Q, isOp q) (hf : fin2 T n s g) (h : tkS T n s g = 44 → AH d b T n ν0 c0 bs was QS (W ++ [m + 2]) o (nxS T n s) (nxG T n s g) (C ++ Q)) (hB : tkS T n s g ≠ 44 → HB ν0 was QS (1, s)) : AG d b T n ν0 c0 bs was QS (W ++ [m] ++ Q.reverse) o s g C := fun hb ν hr => by
  have hn1 := hT.2.1
  have hv := hr.2.1.2.2.2.2.2.2.1
  have hs1 := hv.2.1
  have hlen : (W ++ [m] ++ Q.reverse).length = W.length + 1 + Q.length := by simp; omega
  rw [hlen] at hb
  have hl := lastM_in (b := b) (T := T) (n := n) (ν0 := ν0) (c0 := c0) (o := o) hb0 hbs (by omega : 20 ≤ m ∧ m ≤ 24) hQ
  refine g_fall hd hT hl (by omega) (Or.inr (by omega)) (fun ν1 hr1 => ?_) ν hr
  refine g_none hd hT hl (by omega) hf (fun _ ν2 hr2 => ?_) (fun h2 => by omega) (fun _ h2 => absurd hm h2) ν1 hr1
  refine ev_row (fun q => tX10_goesOn_322 _ q b ν2) (ev_callP (sX10_asksSign hT 44 (by decide) b ν2 hr2.2.1 d (by omega)) (fun _ ν3 ⟨f3, hc⟩ => ?_))
  rcases hc with ⟨c1, c2⟩ | ⟨c1, c2⟩
  · have hr3 := RX_lex hr2 f3 c2
    have hx := nx_in hT hv
    refine ev_pos c2.1 (ev_callP (sX10_dropsToMark b c00 hb0 hbs (by omega : 20 ≤ m ∧ m ≤ 24) ν3 hr3 (by omega) hQ d (by omega)) (fun _ ν4 ⟨a1, a2⟩ => ?_))
    have h43 : ν4 96 43 = (W.length : Int) + 1 := by rw [a1.2.2.1.1]; simp
    have h127 : ν4 127 (W.length : Int) = m := by rw [a1.2.2.1.2 W.length (by simp), getD_app_at]
    have e1 : w32 (ν4 96 43 - 1) = (W.length : Int) := by rw [h43, w32_id (by omega) (by omega)]; omega
    refine ev_if (by show 0 ≤ w32 (ν4 96 43 - 1) ∧ w32 (ν4 96 43 - 1) < 1700; omega) (ev_if (by show 0 ≤ w32 (ν4 96 43 - 1) ∧ w32 (ν4 96 43 - 1) < 1700; omega) (ev_ret ?_))
    dsimp only
    rw [e1, h127, w32_id (by omega) (by omega)]
    have hr5 : RX T n ν0 c0 bs (m2 ν4 127 (W.length : Int) (m + 2)) (nxS T n s) (nxG T n s g) (W ++ [m + 2]) o (C ++ Q) := RX_put a1 (fg_m2 fg_rfl (by decide) (by decide)) ⟨by rw [m2_ne (by decide), h43]; simp, fun i hi => by
      rw [m2_at]
      rw [List.length_append] at hi
      have hi' : i < W.length + 1 := hi
      by_cases c : i = W.length
      · rw [if_pos (by omega), c, getD_app_at]
      · rw [if_neg (by omega), a1.2.2.1.2 i (by rw [List.length_append]; exact hi), getD_app_l (by omega), getD_app_l (by omega)]⟩ (by rw [m2_ne (by decide)]; exact a1.2.2.2.1)
    exact T2_1 hr5.2.1.1 (h c1 (by simp only [List.length_append, List.length_cons, List.length_nil]; omega) _ hr5)
  · refine ev_neg (by show ¬ ν3 96 5 = 0; rw [c2.1]; exact c2.2.1) (ev_ret (T2_bad c2 (hB c1 ν3 (RXb_up (RX_bad hT hr2 c00 (by rw [hlen]; omega) f3 c2) (by decide)))))
/-- a part, in the reference: r1 a sum in brackets here, q1 and q2 the two of min and max -/
theorem rf_part {b : Bool} {T : Int → Int} {n : Int} (hT : Tp T n) {o s : Int} {g : Bool} (hv : VC T n s) (o0 : 0 ≤ o) (o6 : o ≤ 6) (r1 q1 q2 : CR) (h1 : tkS T n s g = 40 → o < 6 → RLp b T n 2 0 (o + 1) (nxS T n s) (nxG T n s g) r1) (f1 : ∀ L s2 g2, r1 = .inr (L, s2, g2) → fin2 T n s2 g2) (k1 : (tkW T n s g = 20 ∨ tkW T n s g = 21) → tkS T n (nxS T n s) (nxG T n s g) = 40 → o < 6 → RLp b T n 2 0 (o + 1) (nxS T n (nxS T n s)) (nxG T n (nxS T n s) (nxG T n s g)) q1) (f2 : ∀ L s2 g2, q1 = .inr (L, s2, g2) → fin2 T n s2 g2) (k2 : ∀ L s2 g2, q1 = .inr (L, s2, g2) → tkS T n s2 g2 = 44 → o < 6 → RLp b T n 2 0 (o + 1) (nxS T n s2) (nxG T n s2 g2) q2) (f3 : ∀ L s2 g2, q2 = .inr (L, s2, g2) → fin2 T n s2 g2) : RPt b T n o s g (prR T n s g (br1 T n o s g r1) (br2 T n o (nxS T n s) (nxG T n s g) q1 q2)) := fun d ν0 c0 bs was QS hd c00 hb0 W C hbs => by
  have topm : ∀ mk : Int, 20 ≤ mk → ¬ isOp (topW (W ++ [mk])) := fun mk h => by rw [topW_app]; unfold isOp; omega
  have lmm : ∀ mk : Int, 20 ≤ mk → mk ≤ 24 → LM b T n ν0 c0 bs (W ++ [mk]) mk := fun mk h0 h1 o' Q hQ => lastM_in hb0 hbs ⟨h0, h1⟩ hQ
  unfold prR
  by_cases c2 : tkK T n s g = 2
  · have hw : tkW T n s g = -1 := by unfold tkW; rw [if_neg (by omega)]
    have hs : tkS T n s g = -1 := by unfold tkS; rw [if_neg (by omega)]
    rw [if_pos c2]
    by_cases c4 : 4 < bhd T n s - s
    · rw [if_pos c4]
      intro hB
      exact h_atom hd hT c00 (by omega) (by omega) (by omega) (fun q => by omega) (fun _ q => by omega) (fun _ e he => by
        rcases he with ⟨q, -⟩ | ⟨-, -, q⟩ | ⟨-, q, -⟩
        · exact absurd c2 q
        · rw [q]; exact hB
        · omega)
    · rw [if_neg c4]
      intro hA
      have hnm := nmN_in hv.1 (tkK2 hT hv c2).1 (tkK2 hT hv c2).2.1 (by omega)
      exact h_atom hd hT c00 (by omega) (by omega) (by omega) (fun q => by omega) (fun _ _ => hA) (fun _ e he => by
        rcases he with ⟨q, -⟩ | ⟨-, q, -⟩ | ⟨-, -, q, -⟩
        · exact absurd c2 q
        · omega
        · exact absurd hnm q)
  · rw [if_neg c2]
    by_cases cw : 11 ≤ tkW T n s g ∧ tkW T n s g ≤ 15
    · rw [if_pos cw]
      intro hA
      have hk := tkW_pos hT hv (by omega : 0 ≤ tkW T n s g)
      have hs : tkS T n s g = -1 := by unfold tkS; rw [if_neg (by omega)]
      exact h_atom hd hT c00 (by omega) (by omega) (by omega) (fun _ => hA) (fun q => absurd q c2) (fun q => absurd cw q)
    · rw [if_neg cw]
      by_cases cm : tkW T n s g = 20 ∨ tkW T n s g = 21
      · have hk := tkW_pos hT hv (by omega : 0 ≤ tkW T n s g)
        have hv1 := (nx_in hT hv).1
        -- both are alike but for the mark and the code
        have mm : ∀ y mk : Int, (mk = if tkW T n s g = 20 then 21 else 22) → ((if mk + 2 = 20 then [] else if mk + 2 = 23 then [5] else [6]) = [y]) → (match suf y (br2 T n o (nxS T n s) (nxG T n s g) q1 q2) with
            | .inl e => HB ν0 was QS e → AH d b T n ν0 c0 bs was QS W o s g C
            | .inr (L, s', g') => AG d b T n ν0 c0 bs was QS W o s' g' (C ++ L) → AH d b T n ν0 c0 bs was QS W o s g C) := fun y mk hmk hy => by
          have hmk2 : mk = 21 ∨ mk = 22 := by rw [hmk]; split <;> omega
          unfold br2
          by_cases c40 : tkS T n (nxS T n s) (nxG T n s g) = 40
          · rw [if_pos c40]
            by_cases c6 : o < 6
            · rw [if_pos c6]
              have hq1 := k1 cm c40 c6 d ν0 c0 bs was QS hd c00 hb0 (W ++ [mk]) C mk (by rw [List.length_append]; omega) (lmm mk (by omega) (by omega)) (by rw [if_neg (by decide)]; exact topm mk (by omega))
              rw [show jL 0 = [] from rfl, List.append_nil] at hq1
              have hmm : ∀ (hA : AH d b T n ν0 c0 bs was QS (W ++ [mk]) (o + 1) (nxS T n (nxS T n s)) (nxG T n (nxS T n s) (nxG T n s g)) C), AH d b T n ν0 c0 bs was QS W o s g C := fun hA => h_mm hd hT c00 o0 o6 cm (fun _ _ => by rw [← hmk]; exact hA) (fun _ q => absurd c6 q) (fun q => absurd c40 q)
              rcases hq : q1 with e | ⟨L1, s2, g2⟩
              · rw [hq] at hq1
                intro hB
                exact hmm (hq1 hB)
              · rw [hq] at hq1
                have hf2 := f2 L1 s2 g2 hq
                by_cases c44 : tkS T n s2 g2 = 44
                · rw [sgR_ok c44]
                  have hq2 := k2 L1 s2 g2 hq c44 c6 d ν0 c0 bs was QS hd c00 hb0 (W ++ [mk + 2]) (C ++ L1) (mk + 2) (by rw [List.length_append]; omega) (lmm (mk + 2) (by omega) (by omega)) (by rw [if_neg (by decide)]; exact topm (mk + 2) (by omega))
                  rw [show jL 0 = [] from rfl, List.append_nil] at hq2
                  have first : AH d b T n ν0 c0 bs was QS (W ++ [mk + 2]) (o + 1) (nxS T n s2) (nxG T n s2 g2) (C ++ L1) → AH d b T n ν0 c0 bs was QS W o s g C := fun hA => hmm (hq1 (fun E Q hE hQ => by
                    refine g_comma hd hT c00 hb0 hbs hmk2 (fun q hq => by have := hQ q hq; rw [if_neg (by decide)] at this; exact this) hf2 (fun _ => ?_) (fun q => absurd c44 q)
                    rw [List.append_assoc, hE]; exact hA))
                  rcases hqq : q2 with e | ⟨L2, s3, g3⟩
                  · rw [hqq] at hq2
                    intro hB
                    exact first (hq2 hB)
                  · rw [hqq] at hq2
                    have hf3 := f3 L2 s3 g3 hqq
                    show match suf y (sgR T n 41 (.inr (L1 ++ L2, s3, g3))) with
                      | .inl e => HB ν0 was QS e → AH d b T n ν0 c0 bs was QS W o s g C
                      | .inr (L, s', g') => AG d b T n ν0 c0 bs was QS W o s' g' (C ++ L) → AH d b T n ν0 c0 bs was QS W o s g C
                    have shut : (tkS T n s3 g3 = 41 → AG d b T n ν0 c0 bs was QS W o (nxS T n s3) (nxG T n s3 g3) (C ++ (L1 ++ L2 ++ [y]))) → (tkS T n s3 g3 ≠ 41 → HB ν0 was QS (1, s3)) → AH d b T n ν0 c0 bs was QS W o s g C := fun hA hB => first (hq2 (fun E Q hE hQ => by
                      refine g_shut hd hT c00 hb0 hbs (by omega : mk + 2 = 20 ∨ mk + 2 = 23 ∨ mk + 2 = 24) (fun q hq => by have := hQ q hq; rw [if_neg (by decide)] at this; exact this) (by omega) (by omega) hf3 (fun q => ?_) hB
                      rw [show o + 1 - 1 = o by omega, hy, show C ++ L1 ++ E ++ Q ++ [y] = C ++ (L1 ++ L2 ++ [y]) from by rw [← hE]; simp only [List.append_assoc]]
                      exact hA q))
                    by_cases c41 : tkS T n s3 g3 = 41
                    · rw [sgR_ok c41]
                      intro hA
                      exact shut (fun _ => hA) (fun q => absurd c41 q)
                    · rw [sgR_no c41]
                      intro hB
                      exact shut (fun q => absurd q c41) (fun _ => hB)
                · rw [sgR_no c44]
                  intro hB
                  exact hmm (hq1 (fun E Q hE hQ => g_comma hd hT c00 hb0 hbs hmk2 (fun q hq => by have := hQ q hq; rw [if_neg (by decide)] at this; exact this) hf2 (fun q => absurd q c44) (fun _ => hB)))
            · rw [if_neg c6]
              intro hB
              exact h_mm hd hT c00 o0 o6 cm (fun _ q => absurd q c6) (fun _ _ => hB) (fun q => absurd c40 q)
          · rw [if_neg c40]
            intro hB
            exact h_mm hd hT c00 o0 o6 cm (fun q => absurd q c40) (fun q => absurd q c40) (fun _ => hB)
        by_cases c20 : tkW T n s g = 20
        · rw [if_pos c20]
          exact mm 5 21 (by rw [if_pos c20]) (by rw [if_neg (by decide), if_pos (by decide)])
        · rw [if_neg c20, if_pos (cm.resolve_left c20)]
          exact mm 6 22 (by rw [if_neg c20]) (by rw [if_neg (by decide), if_neg (by decide)])
      · rw [if_neg (fun q => cm (Or.inl q)), if_neg (fun q => cm (Or.inr q))]
        unfold br1
        by_cases c40 : tkS T n s g = 40
        · rw [if_pos c40]
          by_cases c6 : o < 6
          · rw [if_pos c6]
            have hq1 := h1 c40 c6 d ν0 c0 bs was QS hd c00 hb0 (W ++ [20]) C 20 (by rw [List.length_append]; omega) (lmm 20 (by decide) (by decide)) (by rw [if_neg (by decide)]; exact topm 20 (by decide))
            rw [show jL 0 = [] from rfl, List.append_nil] at hq1
            have hop : AH d b T n ν0 c0 bs was QS (W ++ [20]) (o + 1) (nxS T n s) (nxG T n s g) C → AH d b T n ν0 c0 bs was QS W o s g C := fun hA => h_open hd hT c00 o0 c40 (fun _ => hA) (fun q => absurd c6 q) o6
            rcases hq : r1 with e | ⟨L1, s2, g2⟩
            · rw [hq] at hq1
              intro hB
              exact hop (hq1 hB)
            · rw [hq] at hq1
              have hf2 := f1 L1 s2 g2 hq
              have shut : (tkS T n s2 g2 = 41 → AG d b T n ν0 c0 bs was QS W o (nxS T n s2) (nxG T n s2 g2) (C ++ L1)) → (tkS T n s2 g2 ≠ 41 → HB ν0 was QS (1, s2)) → AH d b T n ν0 c0 bs was QS W o s g C := fun hA hB => hop (hq1 (fun E Q hE hQ => by
                refine g_shut hd hT c00 hb0 hbs (Or.inl rfl) (fun q hq => by have := hQ q hq; rw [if_neg (by decide)] at this; exact this) (by omega) (by omega) hf2 (fun q => ?_) hB
                rw [show o + 1 - 1 = o by omega, if_pos rfl, List.append_nil, List.append_assoc, hE]
                exact hA q))
              by_cases c41 : tkS T n s2 g2 = 41
              · rw [sgR_ok c41]
                intro hA
                exact shut (fun _ => hA) (fun q => absurd c41 q)
              · rw [sgR_no c41]
                intro hB
                exact shut (fun q => absurd q c41) (fun _ => hB)
          · rw [if_neg c6]
            intro hB
            exact h_open hd hT c00 o0 c40 (fun q => absurd q c6) (fun _ => hB) o6
        · rw [if_neg c40]
          intro hB
          exact h_atom hd hT c00 c40 (fun q => cm (Or.inl q)) (fun q => cm (Or.inr q)) (fun q => absurd q cw) (fun q => absurd q c2) (fun _ e he => by
            rcases he with ⟨-, q⟩ | ⟨q, -⟩ | ⟨q, -⟩
            · rw [q]; exact hB
            · exact absurd q c2
            · exact absurd q c2)
