/-! ===== tests: class and reference come to one ===== -/
def RFt (b : Bool) (T : Int → Int) (n o s : Int) (g : Bool) (r : CR) : Prop := ∀ (d : Nat) (ν0 : Nat → Int → Int) (c0 bs : Int) (QT : Int → (Nat → Int → Int) → Prop), 6 ≤ d → 0 ≤ c0 → ∀ (V C : List Int), ¬ isOp (topW V) → (match r with
  | .inl e => HBT ν0 QT e → BH d b T n ν0 c0 bs QT V o s g C
  | .inr (L, s', g') => BT d b T n ν0 c0 bs QT V o s' g' (C ++ L) → BH d b T n ν0 c0 bs QT V o s g C)
def RLt (b : Bool) (T : Int → Int) (n lv j o s : Int) (g : Bool) (r : CR) : Prop := ∀ (d : Nat) (ν0 : Nat → Int → Int) (c0 bs : Int) (QT : Int → (Nat → Int → Int) → Prop), 6 ≤ d → 0 ≤ c0 → ∀ (V C : List Int), ¬ isOp (topW V) → topW V ≠ 17 → (if lv = 1 then topW V ≠ 15 else ¬ isAO (topW V)) → (match r with
  | .inl e => HBT ν0 QT e → BH d b T n ν0 c0 bs QT (V ++ jL j) o s g C
  | .inr (L, s', g') => (∀ E Q : List Int, E ++ Q = L → (∀ q ∈ Q, if lv = 1 then q = 15 else isAO q) → BG d b T n ν0 c0 bs QT (V ++ Q.reverse) o s' g' (C ++ E)) → BH d b T n ν0 c0 bs QT (V ++ jL j) o s g C)
def fn0 (T : Int → Int) (n : Int) (r : CR) : Prop := ∀ L s' g', r = .inr (L, s', g') → jnt T n s' g' 0 = 0 ∧ jnt T n s' g' 1 = 0
def fn1 (T : Int → Int) (n : Int) (r : CR) : Prop := ∀ L s' g', r = .inr (L, s', g') → jnt T n s' g' 1 = 0
theorem fin0_of {T : Int → Int} {n s : Int} {g : Bool} (h0 : jnt T n s g 0 = 0) (h1 : jnt T n s g 1 = 0) : tkW T n s g ≠ 16 ∧ tkW T n s g ≠ 17 := by
  unfold jnt at h0 h1
  rw [if_pos rfl] at h0
  rw [if_neg (by decide), if_pos rfl] at h1
  refine ⟨fun q => ?_, fun q => ?_⟩
  · rw [if_pos q] at h0; exact absurd h0 (by decide)
  · rw [if_pos q] at h1; exact absurd h1 (by decide)
theorem rf_fact {b : Bool} {T : Int → Int} {n : Int} (hT : Tp T n) {o s : Int} {g : Bool} (o0 : 0 ≤ o) (o6 : o ≤ 6) (rn rq r1 r2 : CR) (hn : tkW T n s g = 18 → o < 6 → RFt b T n (o + 1) (nxS T n s) (nxG T n s g) rn) (hq : tkS T n s g = 91 → o < 6 → RLt b T n 0 0 (o + 1) (nxS T n s) (nxG T n s g) rq) (fq : fn0 T n rq) (h1 : tkW T n s g ≠ 18 → tkS T n s g ≠ 91 → tkW T n s g ≠ 19 → RLp b T n 2 0 o s g r1) (f1 : fn2 T n r1) (l1 : ∀ L s' g', r1 = .inr (L, s', g') → VC T n s' ∧ s ≤ s' ∧ (L.length : Int) ≤ s' - s) (h2 : ∀ L s2 g2, r1 = .inr (L, s2, g2) → (tkS T n s2 g2 = 60 ∨ tkS T n s2 g2 = 62 ∨ tkS T n s2 g2 = 61) → RLp b T n 2 0 o (nxS T n s2) (nxG T n s2 g2) r2) (f2 : fn2 T n r2) (l2 : ∀ L s2 g2, r1 = .inr (L, s2, g2) → ∀ L' s' g', r2 = .inr (L', s', g') → nxS T n s2 ≤ s' ∧ (L'.length : Int) ≤ s' - nxS T n s2) (ff : ∀ L s' g', faR T n o s g rn rq r1 r2 = .inr (L, s', g') → (L.length : Int) ≤ s' - s) : RFt b T n o s g (faR T n o s g rn rq r1 r2) := fun d ν0 c0 bs QT hd c00 V C htop => by
  unfold faR at ff ⊢
  by_cases c : tkW T n s g = 18
  · rw [if_pos c]
    by_cases c6 : o < 6
    · rw [if_pos c6]
      have hn' := hn c c6 d ν0 c0 bs QT hd c00 (V ++ [17]) C (by rw [topW_app]; unfold isOp; omega)
      have step : BH d b T n ν0 c0 bs QT (V ++ [17]) (o + 1) (nxS T n s) (nxG T n s g) C → BH d b T n ν0 c0 bs QT V o s g C := fun hA => t_not (by omega) hT c00 o0 o6 c (fun _ => hA) (fun q => absurd c6 q)
      rcases rn with e | ⟨L, s', g'⟩
      · intro hB; exact step (hn' hB)
      · intro hA
        refine step (hn' (td_not (by omega) hT c00 o0 o6 ?_))
        rw [List.append_assoc]; exact hA
    · rw [if_neg c6]
      intro hB
      exact t_not (by omega) hT c00 o0 o6 c (fun q => absurd q c6) (fun _ => hB)
  · rw [if_neg c] at ff ⊢
    by_cases cq : tkS T n s g = 91
    · rw [if_pos cq]
      by_cases c6 : o < 6
      · rw [if_pos c6]
        have hq' := hq cq c6 d ν0 c0 bs QT hd c00 (V ++ [25]) C (by rw [topW_app]; unfold isOp; omega) (by rw [topW_app]; decide) (by rw [if_neg (by decide), topW_app]; unfold isAO; omega)
        rw [show jL 0 = [] from rfl, List.append_nil] at hq'
        have step : BH d b T n ν0 c0 bs QT (V ++ [25]) (o + 1) (nxS T n s) (nxG T n s g) C → BH d b T n ν0 c0 bs QT V o s g C := fun hA => t_sq (by omega) hT c00 o0 o6 cq (fun _ => hA) (fun q => absurd c6 q)
        rcases hrq : rq with e | ⟨L, s2, g2⟩
        · rw [hrq] at hq'
          intro hB; exact step (hq' hB)
        · rw [hrq] at hq'
          have hf := fq L s2 g2 hrq
          obtain ⟨h16, h17⟩ := fin0_of hf.1 hf.2
          by_cases c93 : tkS T n s2 g2 = 93
          · rw [sgR_ok c93]
            intro hA
            refine step (hq' (fun E Q hE hQ => gt_close (by omega) hT c00 (fun q hq => by have := hQ q hq; rw [if_neg (by decide)] at this; exact this) (by omega) (by omega) c93 ?_))
            rw [show o + 1 - 1 = o by omega, List.append_assoc, hE]
            exact hA
          · rw [sgR_no c93]
            intro hB
            exact step (hq' (fun E Q hE hQ => gt_none (by omega) hT c00 h16 h17 (Or.inl c93) (fun _ => hB) (fun q => absurd (by simp) q)))
      · rw [if_neg c6]
        intro hB
        exact t_sq (by omega) hT c00 o0 o6 cq (fun q => absurd q c6) (fun _ => hB)
    · rw [if_neg cq] at ff ⊢
      have hr : (if tkW T n s g = 19 then (Sum.inr ([18], nxS T n s, nxG T n s g) : CR) else cpR T n r1 r2) = fcR T n s g r1 r2 := rfl
      rw [hr] at ff ⊢
      have key : (∀ L s' g', fcR T n s g r1 r2 = .inr (L, s', g') → BT d b T n ν0 c0 bs QT V o s' g' (C ++ L)) → (∀ e, fcR T n s g r1 r2 = .inl e → HBT ν0 QT e) → BH d b T n ν0 c0 bs QT V o s g C := fun hA hB hb ν hrx => by
        refine t_fact (by omega) hT c cq (r := fcR T n s g r1 r2) (fun ν1 hr1 => sX10_fact hT (h1 c cq) f1 l1 h2 f2 l2 c00 htop hb ν1 hr1 (d + 2) (by omega)) (fun L s' g' q => ⟨?_, hA L s' g' q⟩) hB hb ν hrx
        have := ff L s' g' q
        rw [List.length_append]; omega
      rcases hfc : fcR T n s g r1 r2 with e | ⟨L, s', g'⟩
      · intro hB
        exact key (fun L s' g' q => by rw [hfc] at q; cases q) (fun e' q => by rw [hfc] at q; cases q; exact hB)
      · intro hA
        exact key (fun L' s'' g'' q => by rw [hfc] at q; cases q; exact hA) (fun e' q => by rw [hfc] at q; cases q)
theorem jnt_op1 {T : Int → Int} {n s : Int} {g : Bool} (h : jnt T n s g 1 ≠ 0) : jnt T n s g 1 = 15 ∧ tkW T n s g = 17 := by
  unfold jnt at h ⊢
  rw [if_neg (by decide), if_pos rfl] at h ⊢
  by_cases q : tkW T n s g = 17
  · rw [if_pos q]; exact ⟨rfl, q⟩
  · rw [if_neg q] at h; exact absurd rfl h
theorem jnt_op0 {T : Int → Int} {n s : Int} {g : Bool} (h : jnt T n s g 0 ≠ 0) : jnt T n s g 0 = 16 ∧ tkW T n s g = 16 := by
  unfold jnt at h ⊢
  rw [if_pos rfl] at h ⊢
  by_cases q : tkW T n s g = 16
  · rw [if_pos q]; exact ⟨rfl, q⟩
  · rw [if_neg q] at h; exact absurd rfl h
theorem rf_loop1 {b : Bool} {T : Int → Int} {n : Int} (hT : Tp T n) {j o s : Int} {g : Bool} (hj : j = 0 ∨ j = 15) (ro rl : CR) (hp : RFt b T n o s g ro) (hl : ∀ L s1 g1, ro = .inr (L, s1, g1) → jnt T n s1 g1 1 ≠ 0 → RLt b T n 1 (jnt T n s1 g1 1) o (nxS T n s1) (nxG T n s1 g1) rl) : RLt b T n 1 j o s g (lpR T n 1 j ro rl) := fun d ν0 c0 bs QT hd c00 V C hop h17 htop => by
  rw [if_pos rfl] at htop
  have htj : topW (V ++ jL j) ≠ 17 := by
    rw [topW_jL]
    by_cases q : j = 0
    · rw [if_pos q]; exact h17
    · rw [if_neg q]; omega
  have hp' := hp d ν0 c0 bs QT hd c00 (V ++ jL j) C (by
    rw [topW_jL]
    by_cases q : j = 0
    · rw [if_pos q]; exact hop
    · rw [if_neg q]; unfold isOp; omega)
  rcases hro : ro with e | ⟨L, s1, g1⟩
  · rw [hro] at hp'
    exact hp'
  · rw [hro] at hp'
    have hlp : lpR T n 1 j (.inr (L, s1, g1)) rl = if jnt T n s1 g1 1 = 0 then .inr (L ++ jL j, s1, g1) else pre (L ++ jL j) rl := rfl
    rw [hlp]
    by_cases c : jnt T n s1 g1 1 = 0
    · rw [if_pos c]
      intro hK
      refine hp' (td_done (by omega) hT c00 htj ?_)
      have := hK L (jL j) rfl (fun q hq => by rw [if_pos rfl]; have := mem_jL hq; omega)
      rw [jL_rev] at this
      exact this
    · rw [if_neg c]
      obtain ⟨j15, w17⟩ := jnt_op1 c
      have hl' := hl L s1 g1 hro c d ν0 c0 bs QT hd c00 V (C ++ L ++ jL j) hop h17 (by rw [if_pos rfl]; exact htop)
      rw [j15, show jL 15 = [15] from rfl] at hl'
      have step : BH d b T n ν0 c0 bs QT (V ++ [15]) o (nxS T n s1) (nxG T n s1 g1) (C ++ L ++ jL j) → BH d b T n ν0 c0 bs QT (V ++ jL j) o s g C := fun hA => hp' (td_done (by omega) hT c00 htj (by
        have hm := gt_and (Q := jL j) (C := C ++ L) (by omega) hT c00 (fun q hq => by have := mem_jL hq; omega) htop w17 hA
        rw [jL_rev] at hm
        exact hm))
      rcases rl with e | ⟨L2, s2, g2⟩
      · intro hB; exact step (hl' hB)
      · intro hK
        refine step (hl' (fun E Q hE hQ => ?_))
        have := hK (L ++ jL j ++ E) Q (by rw [List.append_assoc, hE]) hQ
        rw [← List.append_assoc, ← List.append_assoc] at this
        exact this
theorem rf_loop0 {b : Bool} {T : Int → Int} {n : Int} (hT : Tp T n) {j o s : Int} {g : Bool} (hj : j = 0 ∨ j = 16) (ro rl : CR) (hp : RLt b T n 1 0 o s g ro) (hl : ∀ L s1 g1, ro = .inr (L, s1, g1) → jnt T n s1 g1 0 ≠ 0 → RLt b T n 0 (jnt T n s1 g1 0) o (nxS T n s1) (nxG T n s1 g1) rl) : RLt b T n 0 j o s g (lpR T n 0 j ro rl) := fun d ν0 c0 bs QT hd c00 V C hop h17 htop => by
  rw [if_neg (by decide)] at htop
  have hp' := hp d ν0 c0 bs QT hd c00 (V ++ jL j) C (by
    rw [topW_jL]
    by_cases q : j = 0
    · rw [if_pos q]; exact hop
    · rw [if_neg q]; unfold isOp; omega) (by
    rw [topW_jL]
    by_cases q : j = 0
    · rw [if_pos q]; exact h17
    · rw [if_neg q]; omega) (by
    rw [if_pos rfl, topW_jL]
    unfold isAO at htop
    by_cases q : j = 0
    · rw [if_pos q]; omega
    · rw [if_neg q]; omega)
  rw [show jL 0 = [] from rfl, List.append_nil] at hp'
  rcases hro : ro with e | ⟨L, s1, g1⟩
  · rw [hro] at hp'
    exact hp'
  · rw [hro] at hp'
    have hlp : lpR T n 0 j (.inr (L, s1, g1)) rl = if jnt T n s1 g1 0 = 0 then .inr (L ++ jL j, s1, g1) else pre (L ++ jL j) rl := rfl
    rw [hlp]
    have rev2 : ∀ Q3 : List Int, V ++ jL j ++ Q3.reverse = V ++ (Q3 ++ jL j).reverse := fun Q3 => by rw [List.reverse_append, jL_rev, List.append_assoc]
    have opQ : ∀ Q3 : List Int, (∀ q ∈ Q3, if (1 : Int) = 1 then q = 15 else isAO q) → ∀ q ∈ Q3 ++ jL j, isAO q := fun Q3 h3 q hq => by
      rcases List.mem_append.1 hq with q1 | q1
      · have := h3 q q1
        rw [if_pos rfl] at this
        exact Or.inl this
      · have := mem_jL q1
        unfold isAO; omega
    by_cases c : jnt T n s1 g1 0 = 0
    · rw [if_pos c]
      intro hK
      refine hp' (fun E Q3 hE h3 => ?_)
      rw [rev2 Q3]
      exact hK E (Q3 ++ jL j) (by rw [← List.append_assoc, hE]) (fun q hq => by rw [if_neg (by decide)]; exact opQ Q3 h3 q hq)
    · rw [if_neg c]
      obtain ⟨j16, w16⟩ := jnt_op0 c
      have hl' := hl L s1 g1 hro c d ν0 c0 bs QT hd c00 V (C ++ L ++ jL j) hop h17 (by rw [if_neg (by decide)]; exact htop)
      rw [j16, show jL 16 = [16] from rfl] at hl'
      have step : BH d b T n ν0 c0 bs QT (V ++ [16]) o (nxS T n s1) (nxG T n s1 g1) (C ++ L ++ jL j) → BH d b T n ν0 c0 bs QT (V ++ jL j) o s g C := fun hA => hp' (fun E Q3 hE h3 => by
        rw [rev2 Q3]
        refine gt_or (C := C ++ E) (by omega) hT c00 (opQ Q3 h3) htop w16 ?_
        rw [show C ++ E ++ (Q3 ++ jL j) = C ++ L ++ jL j from by rw [← hE, List.append_assoc, List.append_assoc, List.append_assoc]]
        exact hA)
      rcases rl with e | ⟨L2, s2, g2⟩
      · intro hB; exact step (hl' hB)
      · intro hK
        refine step (hl' (fun E Q hE hQ => ?_))
        have := hK (L ++ jL j ++ E) Q (by rw [List.append_assoc, hE]) hQ
        rw [← List.append_assoc, ← List.append_assoc] at this
        exact this
/-! facts of facts -/
theorem opT {j : Int} (h : j = 0 ∨ j = 15 ∨ j = 16) : j = 0 ∨ opTy true j := h.elim Or.inl (fun q => Or.inr (Or.inr ⟨rfl, q⟩))
theorem fa_facts {T : Int → Int} {n : Int} (hT : Tp T n) {o : Nat} {s : Int} {g : Bool} (hv : VC T n s) {rn rq r1 r2 : CR} (fn : tkW T n s g = 18 → (o : Int) < 6 → FJ T n true (hp (o + 1) + 3) 0 (nxS T n s) rn) (fq : tkS T n s g = 91 → (o : Int) < 6 → FJ T n true (hp (o + 1) + 5) 0 (nxS T n s) rq) (f1 : FJ T n false (hp o + 2) 0 s r1) (f2 : ∀ L s2 g2, r1 = .inr (L, s2, g2) → (tkS T n s2 g2 = 60 ∨ tkS T n s2 g2 = 62 ∨ tkS T n s2 g2 = 61) → FJ T n false (hp o + 2) 0 (nxS T n s2) r2) : FJ T n true (hp o + 3) 0 s (faR T n o s g rn rq r1 r2) := by
  have hx := nx_in hT hv
  have j0 : (0 : Int) ≤ ((jL 0).length : Int) := Int.natCast_nonneg _
  unfold faR
  by_cases c : tkW T n s g = 18
  · rw [if_pos c]
    by_cases c6 : (o : Int) < 6
    · rw [if_pos c6]
      have hlt := hx.2.2.1 (tkW_pos hT hv (by omega : 0 ≤ tkW T n s g)).2.1
      have hh : hp (o + 1) + 3 = hp o := by unfold hp; omega
      have fq := fn c c6
      rcases hq : rn with e | ⟨L1, s2, g2⟩
      · exact trivial
      · rw [hq] at fq
        obtain ⟨v2, l2, n2, t2⟩ := fq
        have n2' : (L1.length : Int) ≤ s2 - nxS T n s := by rw [show jL 0 = [] from rfl] at n2; simpa using n2
        refine ⟨v2, by omega, ?_, fun ts hts => ?_⟩
        · rw [List.length_append]; show ((L1.length + 1 : Nat) : Int) ≤ _; omega
        · rw [if_pos rfl]
          have a := t2 ts (by omega)
          rw [if_pos rfl] at a
          exact TyL_app a ⟨true :: ts, Or.inr (Or.inr (Or.inl ⟨rfl, rfl, ts, rfl⟩)), rfl⟩
    · rw [if_neg c6]; exact trivial
  · rw [if_neg c]
    by_cases cq : tkS T n s g = 91
    · rw [if_pos cq]
      by_cases c6 : (o : Int) < 6
      · rw [if_pos c6]
        have hlt := hx.2.2.1 (nx0 hT hv cq (by decide))
        have hh : hp (o + 1) + 3 = hp o := by unfold hp; omega
        have ffq := fq cq c6
        rcases hq : rq with e | ⟨L1, s2, g2⟩
        · exact trivial
        · rw [hq] at ffq
          obtain ⟨v2, l2, n2, t2⟩ := ffq
          by_cases c93 : tkS T n s2 g2 = 93
          · rw [sgR_ok c93]
            have hx2 := nx_in hT v2
            exact ⟨hx2.1, by omega, by omega, fun ts hts => t2 ts (by omega)⟩
          · rw [sgR_no c93]; exact trivial
      · rw [if_neg c6]; exact trivial
    · rw [if_neg cq]
      by_cases ca : tkW T n s g = 19
      · rw [if_pos ca]
        have hlt := hx.2.2.1 (tkW_pos hT hv (by omega : 0 ≤ tkW T n s g)).2.1
        exact ⟨hx.1, hlt, by show (1 : Int) ≤ _ + _; omega, fun ts hts => by rw [if_pos rfl]; exact ⟨true :: ts, Or.inr (Or.inl ⟨rfl, by omega, rfl⟩), rfl⟩⟩
      · rw [if_neg ca]
        rcases hq : r1 with e | ⟨L1, s2, g2⟩
        · exact trivial
        · rw [hq] at f1
          obtain ⟨v2, l2, n2, t2⟩ := f1
          have n2' : (L1.length : Int) ≤ s2 - s := by rw [show jL 0 = [] from rfl] at n2; simpa using n2
          have hlp : cpR T n (.inr (L1, s2, g2)) r2 = if tkS T n s2 g2 = 60 ∨ tkS T n s2 g2 = 62 ∨ tkS T n s2 g2 = 61 then suf (cmpY (tkS T n s2 g2)) (pre L1 r2) else .inl (1, s2) := rfl
          rw [hlp]
          by_cases cc : tkS T n s2 g2 = 60 ∨ tkS T n s2 g2 = 62 ∨ tkS T n s2 g2 = 61
          · rw [if_pos cc]
            have ff2 := f2 L1 s2 g2 hq cc
            have hx2 := nx_in hT v2
            have hlt2 := hx2.2.2.1 (nx0 hT v2 (c := tkS T n s2 g2) rfl (by omega))
            rcases hqq : r2 with e | ⟨L2, s3, g3⟩
            · exact trivial
            · rw [hqq] at ff2
              obtain ⟨v3, l3, n3, t3⟩ := ff2
              have n3' : (L2.length : Int) ≤ s3 - nxS T n s2 := by rw [show jL 0 = [] from rfl] at n3; simpa using n3
              refine ⟨v3, by omega, ?_, fun ts hts => ?_⟩
              · simp only [List.length_append, List.length_cons, List.length_nil]; omega
              · rw [if_pos rfl]
                have a := t2 ts (by omega)
                have c := t3 (false :: ts) (by rw [List.length_cons]; omega)
                rw [if_pos rfl] at a c
                have hcy : 12 ≤ cmpY (tkS T n s2 g2) ∧ cmpY (tkS T n s2 g2) ≤ 14 := by unfold cmpY; (repeat' split) <;> omega
                exact TyL_app (TyL_app a c) ⟨true :: ts, Or.inr (Or.inr (Or.inr (Or.inr ⟨ts, rfl, Or.inr ⟨hcy.1, hcy.2, rfl⟩⟩))), rfl⟩
          · rw [if_neg cc]; exact trivial
def JF (b bx : Bool) (T : Int → Int) (n : Int) (o : Nat) (s : Int) (g : Bool) (r : CR) : Prop := CSp b T n (dp o + 3) 168 [mP 1, mI (o : Int)] s g r ∧ RFt bx T n o s g r ∧ FJ T n true (hp o + 3) 0 s r
def J1 (b bx : Bool) (T : Int → Int) (n : Int) (j : Int) (o : Nat) (s : Int) (g : Bool) (r : CR) : Prop := CLp b T n (dp o + 3) 1 o j s g r ∧ RLt bx T n 1 j o s g r ∧ FJ T n true (hp o + 4) j s r ∧ fn1 T n r
def J0 (b bx : Bool) (T : Int → Int) (n : Int) (j : Int) (o : Nat) (s : Int) (g : Bool) (r : CR) : Prop := CLp b T n (dp o + 4) 0 o j s g r ∧ RLt bx T n 0 j o s g r ∧ FJ T n true (hp o + 5) j s r ∧ fn0 T n r
theorem FJ_l {T : Int → Int} {n : Int} {t : Bool} {h : Nat} {s : Int} {r : CR} (hf : FJ T n t h 0 s r) : ∀ L s' g', r = .inr (L, s', g') → VC T n s' ∧ s ≤ s' ∧ (L.length : Int) ≤ s' - s := fun L s' g' q => by
  rw [q] at hf
  obtain ⟨a, c, d, -⟩ := hf
  exact ⟨a, by omega, by rw [show jL 0 = [] from rfl] at d; simpa using d⟩
theorem J_tests (b bx : Bool) {T : Int → Int} {n : Int} (hT : Tp T n) : ∀ (k : Nat) (s : Int) (g : Bool) (o : Nat), VC T n s → n - s ≤ k → o ≤ 6 → (∃ r, JF b bx T n o s g r) ∧ (∀ j, j = 0 ∨ j = 15 → ∃ r, J1 b bx T n j o s g r) ∧ (∀ j, j = 0 ∨ j = 16 → ∃ r, J0 b bx T n j o s g r) := by
  intro k
  induction k with
  | zero =>
    intro s g o hv hk ho
    have hs0 := hv.1
    obtain ⟨r1, p1, p2, p3, p4⟩ := (J_sums b bx hT (n - s).toNat s g o hv (by omega) ho).2.2 0 (Or.inl rfl)
    have hend : ∀ c : Int, c ≠ -1 → tkS T n s g ≠ c := fun c hc q => by have := nx0 hT hv q hc; omega
    have hw : ¬ 0 ≤ tkW T n s g := fun q => by have := (tkW_pos hT hv q).2.1; omega
    have nor1 : ∀ L s1 g1, r1 = .inr (L, s1, g1) → False := fun L s1 g1 q => by
      rw [q] at p3
      have := p3.1.2.1
      have := p3.2.1
      omega
    have hff := fa_facts (o := o) (g := g) (rn := .inl (0, 0)) (rq := .inl (0, 0)) (r2 := .inl (0, 0)) hT hv (fun _ _ => trivial) (fun _ _ => trivial) p3 (fun _ _ _ _ _ => trivial)
    have hF : ∃ r, JF b bx T n o s g r := by
      refine ⟨faR T n o s g (.inl (0, 0)) (.inl (0, 0)) r1 (.inl (0, 0)), ?_, ?_, hff⟩
      · exact cl_fact hT (D := dp o + 2) (by unfold dp; omega) (by omega) (by omega) _ _ r1 _ (fun q => by omega) trivial (fun q => absurd q (hend 91 (by decide))) (fun _ _ _ => cl_chain p1 hs0) (Gd_FJ p3) (fun L s2 g2 q => (nor1 L s2 g2 q).elim) (fun L s2 g2 q => (nor1 L s2 g2 q).elim)
      · exact rf_fact hT (by omega) (by omega) _ _ r1 _ (fun q => by omega) (fun q => absurd q (hend 91 (by decide))) (fun L s2 g2 q => by cases q) (fun _ _ _ => p2) p4 (FJ_l p3) (fun L s2 g2 q => (nor1 L s2 g2 q).elim) (fun L s2 g2 q => by cases q) (fun L s2 g2 q => (nor1 L s2 g2 q).elim) (fun L s' g' q => (FJ_l hff L s' g' q).2.2)
    have h10 : ∀ j, j = 0 ∨ j = 15 → ∃ r, J1 b bx T n j o s g r := fun j hj => by
      obtain ⟨ro, c1, c2, c3⟩ := hF
      have nolp : ∀ L s1 g1, ro = .inr (L, s1, g1) → False := fun L s1 g1 q => by
        have hle := (FJ_l c3 L s1 g1 q).1.2.1
        rw [q] at c3
        have := c3.2.1
        omega
      refine ⟨lpR T n 1 j ro (.inl (0, 0)), ?_, ?_, ?_, ?_⟩
      · exact cl_loop hT (by unfold dp; omega) ⟨by decide, by decide⟩ (by unfold isJ; omega) hv.2.1 ro _ c1 (Gd_FJ c3) (fun L s1 g1 q => (nolp L s1 g1 q).elim)
      · exact rf_loop1 hT hj ro _ c2 (fun L s1 g1 q => (nolp L s1 g1 q).elim)
      · exact lp_facts hT (Nat.le_refl _) (opT (by omega)) c3 (fun L s1 g1 q => (nolp L s1 g1 q).elim)
      · exact fn_lp (fun L s1 g1 q => (nolp L s1 g1 q).elim) (fun L s1 g1 q => (nolp L s1 g1 q).elim)
    refine ⟨hF, h10, fun j hj => ?_⟩
    obtain ⟨ro, c1, c2, c3, c4⟩ := h10 0 (Or.inl rfl)
    have nolp : ∀ L s1 g1, ro = .inr (L, s1, g1) → False := fun L s1 g1 q => by
      have hle := (FJ_l c3 L s1 g1 q).1.2.1
      rw [q] at c3
      have := c3.2.1
      omega
    refine ⟨lpR T n 0 j ro (.inl (0, 0)), ?_, ?_, ?_, ?_⟩
    · exact cl_loop hT (by unfold dp; omega) ⟨by decide, by decide⟩ (by unfold isJ; omega) hv.2.1 ro _ (cl_chain c1 hs0) (Gd_FJ c3) (fun L s1 g1 q => (nolp L s1 g1 q).elim)
    · exact rf_loop0 hT hj ro _ c2 (fun L s1 g1 q => (nolp L s1 g1 q).elim)
    · exact lp_facts hT (Nat.le_refl _) (opT (by omega)) c3 (fun L s1 g1 q => (nolp L s1 g1 q).elim)
    · exact fn_lp (fun L s1 g1 q => (nolp L s1 g1 q).elim) (fun L s1 g1 q => (nolp L s1 g1 q).elim)
  | succ k ih =>
    intro s g o hv hk ho
    have hs0 := hv.1
    have hx := nx_in hT hv
    obtain ⟨r1, p1, p2, p3, p4⟩ := (J_sums b bx hT (n - s).toNat s g o hv (by omega) ho).2.2 0 (Or.inl rfl)
    have hF : ∃ r, JF b bx T n o s g r := by
      have hn : ∃ rn : CR, (tkW T n s g = 18 → (o : Int) < 6 → CSp b T n (dp o + 2) 168 [mP 1, mI ((o : Int) + 1)] (nxS T n s) (nxG T n s g) rn ∧ RFt bx T n ((o : Int) + 1) (nxS T n s) (nxG T n s g) rn) ∧ FJ T n true (hp (o + 1) + 3) 0 (nxS T n s) rn := by
        by_cases c : tkW T n s g = 18 ∧ (o : Int) < 6
        · obtain ⟨r, c1, c2, c3⟩ := (ih (nxS T n s) (nxG T n s g) (o + 1) hx.1 (by have := hx.2.2.1 (tkW_pos hT hv (by omega : 0 ≤ tkW T n s g)).2.1; omega) (by omega)).1
          exact ⟨r, fun _ _ => ⟨CSp_up c1 (by unfold dp; omega), c2⟩, c3⟩
        · exact ⟨.inl (0, 0), fun q1 q2 => absurd ⟨q1, q2⟩ c, trivial⟩
      obtain ⟨rn, a1, a2⟩ := hn
      have hq : ∃ rq : CR, (tkS T n s g = 91 → (o : Int) < 6 → CSp b T n (dp o + 2) 167 [mP 1, mI 0, mI ((o : Int) + 1)] (nxS T n s) (nxG T n s g) rq ∧ RLt bx T n 0 0 ((o : Int) + 1) (nxS T n s) (nxG T n s g) rq) ∧ FJ T n true (hp (o + 1) + 5) 0 (nxS T n s) rq ∧ fn0 T n rq := by
        by_cases c : tkS T n s g = 91 ∧ (o : Int) < 6
        · obtain ⟨r, c1, c2, c3, c4⟩ := (ih (nxS T n s) (nxG T n s g) (o + 1) hx.1 (by have := hx.2.2.1 (nx0 hT hv c.1 (by decide)); omega) (by omega)).2.2 0 (Or.inl rfl)
          exact ⟨r, fun _ _ => ⟨CSp_up (cl_chain c1 hx.1.1) (by unfold dp; omega), c2⟩, c3, c4⟩
        · exact ⟨.inl (0, 0), fun q1 q2 => absurd ⟨q1, q2⟩ c, trivial, fun L s' g' q => by cases q⟩
      obtain ⟨rq, b1, b2, b3⟩ := hq
      have h2 : ∃ r2 : CR, (∀ L s2 g2, r1 = .inr (L, s2, g2) → CSp b T n (dp o + 2) 167 [mP 1, mI 2, mI (o : Int)] (nxS T n s2) (nxG T n s2 g2) r2 ∧ RLp bx T n 2 0 o (nxS T n s2) (nxG T n s2 g2) r2 ∧ FJ T n false (hp o + 2) 0 (nxS T n s2) r2) ∧ fn2 T n r2 := by
        rcases hr : r1 with e | ⟨L, s2, g2⟩
        · exact ⟨.inl (0, 0), fun L s' g' q => (by cases q), fun L s' g' q => by cases q⟩
        · rw [hr] at p3
          have hx2 := nx_in hT p3.1
          obtain ⟨r, c1, c2, c3, c4⟩ := (J_sums b bx hT (n - nxS T n s2).toNat (nxS T n s2) (nxG T n s2 g2) o hx2.1 (by omega) ho).2.2 0 (Or.inl rfl)
          refine ⟨r, fun L' s' g' q => ?_, c4⟩
          cases q
          exact ⟨cl_chain c1 hx2.1.1, c2, c3⟩
      obtain ⟨r2, d1, d2⟩ := h2
      have hff := fa_facts (o := o) (g := g) (rn := rn) (rq := rq) (r2 := r2) hT hv (fun _ _ => a2) (fun _ _ => b2) p3 (fun L s2 g2 q _ => (d1 L s2 g2 q).2.2)
      refine ⟨faR T n o s g rn rq r1 r2, ?_, ?_, hff⟩
      · exact cl_fact hT (D := dp o + 2) (by unfold dp; omega) (by omega) (by omega) rn rq r1 r2 (fun k1 k2 => (a1 k1 k2).1) (Gd_FJ a2) (fun k1 k2 => (b1 k1 k2).1) (fun _ _ _ => cl_chain p1 hs0) (Gd_FJ p3) (fun L s2 g2 q _ => (d1 L s2 g2 q).1) (fun L s2 g2 q => Gd_FJ (d1 L s2 g2 q).2.2)
      · exact rf_fact hT (by omega) (by omega) rn rq r1 r2 (fun k1 k2 => (a1 k1 k2).2) (fun k1 k2 => (b1 k1 k2).2) b3 (fun _ _ _ => p2) p4 (FJ_l p3) (fun L s2 g2 q _ => (d1 L s2 g2 q).2.1) d2 (fun L s2 g2 q L' s' g' q' => (FJ_l (d1 L s2 g2 q).2.2 L' s' g' q').2) (fun L s' g' q => (FJ_l hff L s' g' q).2.2)
    have h10 : ∀ j, j = 0 ∨ j = 15 → ∃ r, J1 b bx T n j o s g r := fun j hj => by
      obtain ⟨ro, c1, c2, c3⟩ := hF
      have hrl : ∃ rl : CR, ∀ L s1 g1, ro = .inr (L, s1, g1) → jnt T n s1 g1 1 ≠ 0 → J1 b bx T n (jnt T n s1 g1 1) o (nxS T n s1) (nxG T n s1 g1) rl := by
        rcases hq : ro with e | ⟨L, s1, g1⟩
        · exact ⟨.inl (0, 0), fun L s' g' q => by cases q⟩
        · rw [hq] at c3
          by_cases c : jnt T n s1 g1 1 = 0
          · exact ⟨.inl (0, 0), fun L' s' g' q hne => by cases q; exact absurd c hne⟩
          · have hx1 := nx_in hT c3.1
            obtain ⟨r, hr⟩ := (ih (nxS T n s1) (nxG T n s1 g1) o hx1.1 (by have := c3.2.1; omega) ho).2.1 _ (Or.inr (jnt_op1 c).1)
            exact ⟨r, fun L' s' g' q _ => by cases q; exact hr⟩
      obtain ⟨rl, hl⟩ := hrl
      refine ⟨lpR T n 1 j ro rl, ?_, ?_, ?_, ?_⟩
      · exact cl_loop hT (by unfold dp; omega) ⟨by decide, by decide⟩ (by unfold isJ; omega) hv.2.1 ro rl c1 (Gd_FJ c3) (fun L s1 g1 q hne => (hl L s1 g1 q hne).1)
      · exact rf_loop1 hT hj ro rl c2 (fun L s1 g1 q hne => (hl L s1 g1 q hne).2.1)
      · exact lp_facts hT (Nat.le_refl _) (opT (by omega)) c3 (fun L s1 g1 q hne => ⟨Or.inr ⟨rfl, Or.inl (jnt_op1 hne).1⟩, (hl L s1 g1 q hne).2.2.1⟩)
      · exact fn_lp (fun L s1 g1 q h0 => h0) (fun L s1 g1 q hne => (hl L s1 g1 q hne).2.2.2)
    refine ⟨hF, h10, fun j hj => ?_⟩
    obtain ⟨ro, c1, c2, c3, c4⟩ := h10 0 (Or.inl rfl)
    have hrl : ∃ rl : CR, ∀ L s1 g1, ro = .inr (L, s1, g1) → jnt T n s1 g1 0 ≠ 0 → J0 b bx T n (jnt T n s1 g1 0) o (nxS T n s1) (nxG T n s1 g1) rl := by
      rcases hq : ro with e | ⟨L, s1, g1⟩
      · exact ⟨.inl (0, 0), fun L s' g' q => by cases q⟩
      · rw [hq] at c3
        by_cases c : jnt T n s1 g1 0 = 0
        · exact ⟨.inl (0, 0), fun L' s' g' q hne => by cases q; exact absurd c hne⟩
        · have hx1 := nx_in hT c3.1
          obtain ⟨r, hr⟩ := (ih (nxS T n s1) (nxG T n s1 g1) o hx1.1 (by have := c3.2.1; omega) ho).2.2 _ (Or.inr (jnt_op0 c).1)
          exact ⟨r, fun L' s' g' q _ => by cases q; exact hr⟩
    obtain ⟨rl, hl⟩ := hrl
    refine ⟨lpR T n 0 j ro rl, ?_, ?_, ?_, ?_⟩
    · exact cl_loop hT (by unfold dp; omega) ⟨by decide, by decide⟩ (by unfold isJ; omega) hv.2.1 ro rl (cl_chain c1 hs0) (Gd_FJ c3) (fun L s1 g1 q hne => (hl L s1 g1 q hne).1)
    · exact rf_loop0 hT hj ro rl c2 (fun L s1 g1 q hne => (hl L s1 g1 q hne).2.1)
    · exact lp_facts hT (Nat.le_refl _) (opT (by omega)) c3 (fun L s1 g1 q hne => ⟨Or.inr ⟨rfl, Or.inr (jnt_op0 hne).1⟩, (hl L s1 g1 q hne).2.2.1⟩)
    · exact fn_lp (fun L s1 g1 q h0 => ⟨h0, c4 L s1 g1 q⟩) (fun L s1 g1 q hne => (hl L s1 g1 q hne).2.2.2)
/-- a whole test, in the reference -/
theorem sX10_test {b : Bool} {T : Int → Int} {n : Int} (hT : Tp T n) {s : Int} {g : Bool} {r : CR} (hr : RLt b T n 0 0 0 s g r) (hf : fn0 T n r) (hv' : ∀ L s' g', r = .inr (L, s', g') → VC T n s' ∧ s ≤ s' ∧ (L.length : Int) ≤ s' - s) {ν0 : Nat → Int → Int} {c0 bs : Int} (c00 : 0 ≤ c0) {C : List Int} (hb : c0 + (C.length : Int) + 4 ≤ s) (ν : Nat → Int → Int) (h : RX T n ν0 c0 bs ν s g [] 0 C) : ∀ D, 9 ≤ D → Cal D 126 [mP 96] b ν (fun _ ν' => RPo T n ν0 c0 bs 2 [] 0 C ν' r) := fun D hD => by
  obtain ⟨d, rfl⟩ : ∃ d, D = d + 3 := ⟨D - 3, by omega⟩
  have hn1 := hT.2.1
  have hk := hr d ν0 c0 bs (fun _ ν' => RPo T n ν0 c0 bs 2 [] 0 C ν' r) (by omega) c00 [] C (by unfold topW isOp; simp) (by unfold topW; simp) (by rw [if_neg (by decide)]; unfold topW isAO; simp)
  have hA : BH d b T n ν0 c0 bs (fun _ ν' => RPo T n ν0 c0 bs 2 [] 0 C ν' r) [] 0 s g C := by
    rcases hq : r with e | ⟨L, s', g'⟩
    · rw [hq] at hk
      exact hk (fun ν' hb' => hb')
    · rw [hq] at hk
      have hff := hf L s' g' hq
      obtain ⟨h16, h17⟩ := fin0_of hff.1 hff.2
      have hlen := hv' L s' g' hq
      have hs' := hlen.1.2.1
      refine hk (fun E Q hE hQ => ?_)
      have hQ' : ∀ q ∈ Q, isAO q := fun q hq => by have := hQ q hq; rw [if_neg (by decide)] at this; exact this
      have hno : (25 : Int) ∉ Q.reverse := fun q => by have := hQ' 25 (List.mem_reverse.1 q); unfold isAO at this; omega
      have hlE : E.length + Q.length = L.length := by rw [← hE, List.length_append]
      rw [List.nil_append]
      refine gt_none (by omega) hT c00 h16 h17 (Or.inr hno) (fun q => absurd q hno) (fun _ ν1 hr1 c => U2_end c00 hr1 (by rw [List.length_append]; omega) (fun ν2 h2 => ?_) c)
      rw [List.append_assoc, hE] at h2
      exact h2
  refine cal_ev (fun r => call_X10_test (d + 2) b ν) (ev_row (fun m => tX10_test_0 _ m b ν) ?_)
  exact hA (by simpa using hb) ν h none
