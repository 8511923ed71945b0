/-! ===== kinds of code ===== -/
def TyL : List Int → List Bool → List Bool → Prop
  | [], ts, ts' => ts = ts'
  | y :: L, ts, ts' => ∃ t1, Ty ts y t1 ∧ TyL L t1 ts'
theorem TyL_app : ∀ {L K : List Int} {ts t1 t2 : List Bool}, TyL L ts t1 → TyL K t1 t2 → TyL (L ++ K) ts t2
  | [], K, ts, t1, t2, h, h2 => by rw [show ts = t1 from h]; exact h2
  | y :: L, K, ts, t1, t2, ⟨t, a, c⟩, h2 => ⟨t, a, TyL_app c h2⟩
def tyJ (t : Bool) (j : Int) (h : Nat) (L : List Int) : Prop := ∀ ts : List Bool, ts.length + h ≤ 64 → TyL L (if j = 0 then ts else t :: ts) (t :: ts)
def FJ (T : Int → Int) (n : Int) (t : Bool) (h : Nat) (j s : Int) : CR → Prop
  | .inl _ => True
  | .inr (L, s', _) => VC T n s' ∧ s < s' ∧ (L.length : Int) ≤ s' - s + ((jL j).length : Int) ∧ tyJ t j h L
def opTy (t : Bool) (j : Int) : Prop := (t = false ∧ 1 ≤ j ∧ j ≤ 4) ∨ (t = true ∧ (j = 15 ∨ j = 16))
theorem opF {j : Int} (h : j = 0 ∨ (1 ≤ j ∧ j ≤ 4)) : j = 0 ∨ opTy false j := h.elim Or.inl (fun q => Or.inr (Or.inl ⟨rfl, q.1, q.2⟩))
theorem opF' {j : Int} (h : 1 ≤ j ∧ j ≤ 4) : opTy false j := Or.inl ⟨rfl, h.1, h.2⟩
theorem opTy_Ty {t : Bool} {j : Int} (h : opTy t j) (ts : List Bool) : Ty (t :: t :: ts) j (t :: ts) := by
  rcases h with ⟨h1, h2, h3⟩ | ⟨h1, h2⟩
  · rw [h1]
    exact Or.inr (Or.inr (Or.inr (Or.inr ⟨ts, rfl, Or.inl ⟨h2, by omega, rfl⟩⟩)))
  · rw [h1]
    exact Or.inr (Or.inr (Or.inr (Or.inl ⟨by omega, ts, rfl, rfl⟩)))
theorem Gd_FJ {T : Int → Int} {n : Int} {t : Bool} {h : Nat} {s : Int} {r : CR} (hf : FJ T n t h 0 s r) : Gd n s r := by
  rcases r with e | ⟨L, s', g'⟩
  · exact trivial
  · obtain ⟨a, c, d, -⟩ := hf
    exact ⟨c, a.2.1, by rw [show jL 0 = [] from rfl] at d; simpa using d⟩
theorem lp_facts {T : Int → Int} {n : Int} (hT : Tp T n) {t : Bool} {h h' : Nat} {lv j s : Int} (hh : h' + 1 ≤ h) (hj : j = 0 ∨ opTy t j) {ro rl : CR} (fo : FJ T n t h' 0 s ro) (fl : ∀ L s1 g1, ro = .inr (L, s1, g1) → jnt T n s1 g1 lv ≠ 0 → opTy t (jnt T n s1 g1 lv) ∧ FJ T n t h (jnt T n s1 g1 lv) (nxS T n s1) rl) : FJ T n t h j s (lpR T n lv j ro rl) := by
  rcases hro : ro with e | ⟨L, s1, g1⟩
  · exact trivial
  · rw [hro] at fo
    obtain ⟨v1, l1, n1, t1⟩ := fo
    have n1' : (L.length : Int) ≤ s1 - s := by rw [show jL 0 = [] from rfl] at n1; simpa using n1
    have hd : ∀ ts : List Bool, ts.length + h ≤ 64 → TyL (L ++ jL j) (if j = 0 then ts else t :: ts) (t :: ts) := fun ts hts => by
      by_cases c : j = 0
      · rw [if_pos c, show jL j = [] from by unfold jL; rw [if_pos c], List.append_nil]
        exact t1 ts (by omega)
      · rw [if_neg c, show jL j = [j] from by unfold jL; rw [if_neg c]]
        have q := t1 (t :: ts) (by rw [List.length_cons]; omega)
        exact TyL_app q ⟨t :: ts, opTy_Ty (hj.resolve_left c) ts, rfl⟩
    have hlp : lpR T n lv j (.inr (L, s1, g1)) rl = if jnt T n s1 g1 lv = 0 then .inr (L ++ jL j, s1, g1) else pre (L ++ jL j) rl := rfl
    rw [hlp]
    by_cases c : jnt T n s1 g1 lv = 0
    · rw [if_pos c]
      exact ⟨v1, l1, by rw [List.length_append]; omega, hd⟩
    · rw [if_neg c]
      obtain ⟨hop, hf⟩ := fl L s1 g1 hro c
      rcases rl with e | ⟨L2, s2, g2⟩
      · exact trivial
      · obtain ⟨v2, l2, n2, t2⟩ := hf
        have hx := nx_in hT v1
        have hx2 := hx.2.2.1 (jnt_lt hT v1 c)
        rw [show jL (jnt T n s1 g1 lv) = [jnt T n s1 g1 lv] from by unfold jL; rw [if_neg c]] at n2
        refine ⟨v2, by omega, ?_, fun ts hts => TyL_app (hd ts hts) ?_⟩
        · rw [List.length_append, List.length_append]
          rw [List.length_singleton] at n2
          omega
        · have := t2 ts hts
          rw [if_neg c] at this
          exact this
def hp (o : Nat) : Nat := 3 * (6 - o) + 1
def dp (o : Nat) : Nat := 30 * (6 - o) + 12
def fn3 (T : Int → Int) (n : Int) (r : CR) : Prop := ∀ L s' g', r = .inr (L, s', g') → jnt T n s' g' 3 = 0
def fn2 (T : Int → Int) (n : Int) (r : CR) : Prop := ∀ L s' g', r = .inr (L, s', g') → jnt T n s' g' 2 = 0 ∧ jnt T n s' g' 3 = 0
def JP (b bx : Bool) (T : Int → Int) (n : Int) (o : Nat) (s : Int) (g : Bool) (r : CR) : Prop := CSp b T n (dp o) 171 [mP 1, mI (o : Int)] s g r ∧ RPt bx T n o s g r ∧ FJ T n false (hp o) 0 s r
def J3 (b bx : Bool) (T : Int → Int) (n : Int) (j : Int) (o : Nat) (s : Int) (g : Bool) (r : CR) : Prop := CLp b T n (dp o) 3 o j s g r ∧ RLp bx T n 3 j o s g r ∧ FJ T n false (hp o + 1) j s r ∧ fn3 T n r
def J2 (b bx : Bool) (T : Int → Int) (n : Int) (j : Int) (o : Nat) (s : Int) (g : Bool) (r : CR) : Prop := CLp b T n (dp o + 1) 2 o j s g r ∧ RLp bx T n 2 j o s g r ∧ FJ T n false (hp o + 2) j s r ∧ fn2 T n r
theorem CSp_up {b : Bool} {T : Int → Int} {n : Int} {D D' z : Nat} {as : List mV} {s : Int} {g : Bool} {r : CR} (h : CSp b T n D z as s g r) (hD : D ≤ D') : CSp b T n D' z as s g r := fun d hd => h d (by omega)
theorem fn_lp {T : Int → Int} {n lv j : Int} {ro rl : CR} {P : Int → Bool → Prop} (h0 : ∀ L s1 g1, ro = .inr (L, s1, g1) → jnt T n s1 g1 lv = 0 → P s1 g1) (h1 : ∀ L s1 g1, ro = .inr (L, s1, g1) → jnt T n s1 g1 lv ≠ 0 → ∀ L s' g', rl = .inr (L, s', g') → P s' g') : ∀ L s' g', lpR T n lv j ro rl = .inr (L, s', g') → P s' g' := by
  intro L s' g' h
  rcases hro : ro with e | ⟨K, s1, g1⟩
  · rw [hro] at h; exact absurd h (by intro q; cases q)
  · rw [hro] at h
    have hlp : lpR T n lv j (.inr (K, s1, g1)) rl = if jnt T n s1 g1 lv = 0 then .inr (K ++ jL j, s1, g1) else pre (K ++ jL j) rl := rfl
    rw [hlp] at h
    by_cases c : jnt T n s1 g1 lv = 0
    · rw [if_pos c] at h
      cases h
      exact h0 K _ _ hro c
    · rw [if_neg c] at h
      rcases hrl : rl with e | ⟨L2, s2, g2⟩
      · rw [hrl] at h; exact absurd h (by intro q; cases q)
      · rw [hrl] at h
        cases h
        exact h1 K s1 g1 hro c L2 _ _ hrl
theorem jnt_op3 {T : Int → Int} {n s : Int} {g : Bool} (h : jnt T n s g 3 ≠ 0) : (jnt T n s g 3 = 3 ∨ jnt T n s g 3 = 4) := by
  unfold jnt at h ⊢
  rw [if_neg (by decide), if_neg (by decide), if_neg (by decide)] at h ⊢
  (repeat' split at h) <;> (repeat' split) <;> omega
theorem jnt_op2 {T : Int → Int} {n s : Int} {g : Bool} (h : jnt T n s g 2 ≠ 0) : (jnt T n s g 2 = 1 ∨ jnt T n s g 2 = 2) := by
  unfold jnt at h ⊢
  rw [if_neg (by decide), if_neg (by decide), if_pos rfl] at h ⊢
  (repeat' split at h) <;> (repeat' split) <;> omega
/-- a part's facts -/
theorem pr_facts {T : Int → Int} {n : Int} (hT : Tp T n) {o : Nat} {s : Int} {g : Bool} (hv : VC T n s) {r1 q1 q2 : CR} (f1 : tkS T n s g = 40 → (o : Int) < 6 → FJ T n false (hp (o + 1) + 2) 0 (nxS T n s) r1) (k1 : tkS T n (nxS T n s) (nxG T n s g) = 40 → (o : Int) < 6 → FJ T n false (hp (o + 1) + 2) 0 (nxS T n (nxS T n s)) q1) (k2 : ∀ L s2 g2, q1 = .inr (L, s2, g2) → tkS T n s2 g2 = 44 → (o : Int) < 6 → FJ T n false (hp (o + 1) + 2) 0 (nxS T n s2) q2) : FJ T n false (hp o) 0 s (prR T n s g (br1 T n o s g r1) (br2 T n o (nxS T n s) (nxG T n s g) q1 q2)) := by
  have hx := nx_in hT hv
  have hh1 : 1 ≤ hp o := by unfold hp; omega
  have one : ∀ y : Int, ((1000 ≤ y ∧ y ≤ 10999) ∨ (7 ≤ y ∧ y ≤ 11)) → s < n → FJ T n false (hp o) 0 s (.inr ([y], nxS T n s, nxG T n s g)) := fun y hy hsn => ⟨hx.1, hx.2.2.1 hsn, by have := hx.2.2.1 hsn; show (1 : Int) ≤ _ + (0 : Int); omega, fun ts hts => by rw [if_pos rfl]; exact ⟨false :: ts, Or.inl ⟨hy, by omega, rfl⟩, rfl⟩⟩
  unfold prR
  by_cases c2 : tkK T n s g = 2
  · rw [if_pos c2]
    by_cases c4 : 4 < bhd T n s - s
    · rw [if_pos c4]; exact trivial
    · rw [if_neg c4]
      obtain ⟨hsn, hk, -⟩ := tkK2 hT hv c2
      have := nmN_in hv.1 hsn hk (by omega)
      exact one _ (by omega) hsn
  · rw [if_neg c2]
    by_cases cw : 11 ≤ tkW T n s g ∧ tkW T n s g ≤ 15
    · rw [if_pos cw]
      exact one _ (by omega) (tkW_pos hT hv (by omega : 0 ≤ tkW T n s g)).2.1
    · rw [if_neg cw]
      have mm : ∀ y : Int, (y = 5 ∨ y = 6) → 0 ≤ tkW T n s g → FJ T n false (hp o) 0 s (suf y (br2 T n o (nxS T n s) (nxG T n s g) q1 q2)) := fun y hy hw => by
        have hsn := (tkW_pos hT hv hw).2.1
        have hlt := hx.2.2.1 hsn
        unfold br2
        by_cases c40 : tkS T n (nxS T n s) (nxG T n s g) = 40
        · rw [if_pos c40]
          by_cases c6 : (o : Int) < 6
          · rw [if_pos c6]
            have hh : hp (o + 1) + 3 = hp o := by unfold hp; omega
            have hx1 := nx_in hT hx.1
            have hlt1 := hx1.2.2.1 (nx0 hT hx.1 c40 (by decide))
            have fq := k1 c40 c6
            rcases hq : q1 with e | ⟨L1, s2, g2⟩
            · exact trivial
            · rw [hq] at fq
              obtain ⟨v2, l2, n2, t2⟩ := fq
              have n2' : (L1.length : Int) ≤ s2 - nxS T n (nxS T n s) := by rw [show jL 0 = [] from rfl] at n2; simpa using n2
              by_cases c44 : tkS T n s2 g2 = 44
              · rw [sgR_ok c44]
                have fq2 := k2 L1 s2 g2 hq c44 c6
                have hx2 := nx_in hT v2
                have hlt2 := hx2.2.2.1 (nx0 hT v2 c44 (by decide))
                rcases hqq : q2 with e | ⟨L2, s3, g3⟩
                · exact trivial
                · rw [hqq] at fq2
                  obtain ⟨v3, l3, n3, t3⟩ := fq2
                  have n3' : (L2.length : Int) ≤ s3 - nxS T n s2 := by rw [show jL 0 = [] from rfl] at n3; simpa using n3
                  show FJ T n false (hp o) 0 s (suf y (sgR T n 41 (.inr (L1 ++ L2, s3, g3))))
                  by_cases c41 : tkS T n s3 g3 = 41
                  · rw [sgR_ok c41]
                    have hx3 := nx_in hT v3
                    refine ⟨hx3.1, by omega, ?_, fun ts hts => ?_⟩
                    · simp only [List.length_append, List.length_cons, List.length_nil]
                      have : (0 : Int) ≤ ((jL 0).length : Int) := Int.natCast_nonneg _
                      omega
                    · rw [if_pos rfl]
                      have a := t2 ts (by omega)
                      have c := t3 (false :: ts) (by rw [List.length_cons]; omega)
                      rw [if_pos rfl] at a c
                      exact TyL_app (TyL_app a c) ⟨false :: ts, Or.inr (Or.inr (Or.inr (Or.inr ⟨ts, rfl, Or.inl ⟨by omega, by omega, rfl⟩⟩))), rfl⟩
                  · rw [sgR_no c41]; exact trivial
              · rw [sgR_no c44]; exact trivial
          · rw [if_neg c6]; exact trivial
        · rw [if_neg c40]; exact trivial
      by_cases c20 : tkW T n s g = 20
      · rw [if_pos c20]; exact mm 5 (Or.inl rfl) (by omega)
      · rw [if_neg c20]
        by_cases c21 : tkW T n s g = 21
        · rw [if_pos c21]; exact mm 6 (Or.inr rfl) (by omega)
        · rw [if_neg c21]
          unfold br1
          by_cases c40 : tkS T n s g = 40
          · rw [if_pos c40]
            by_cases c6 : (o : Int) < 6
            · rw [if_pos c6]
              have hlt := hx.2.2.1 (nx0 hT hv c40 (by decide))
              have fq := f1 c40 c6
              have hh : hp (o + 1) + 3 = hp o := by unfold hp; omega
              rcases hq : r1 with e | ⟨L1, s2, g2⟩
              · exact trivial
              · rw [hq] at fq
                obtain ⟨v2, l2, n2, t2⟩ := fq
                have n2' : (L1.length : Int) ≤ s2 - nxS T n s := by rw [show jL 0 = [] from rfl] at n2; simpa using n2
                by_cases c41 : tkS T n s2 g2 = 41
                · rw [sgR_ok c41]
                  have hx3 := nx_in hT v2
                  have : (0 : Int) ≤ ((jL 0).length : Int) := Int.natCast_nonneg _
                  exact ⟨hx3.1, by omega, by omega, fun ts hts => t2 ts (by omega)⟩
                · rw [sgR_no c41]; exact trivial
            · rw [if_neg c6]; exact trivial
          · rw [if_neg c40]; exact trivial
theorem br2_Gd {T : Int → Int} {n : Int} (hT : Tp T n) {o : Nat} {s : Int} {g : Bool} (hv : VC T n s) {q1 q2 : CR} {h : Nat} (k1 : FJ T n false h 0 (nxS T n s) q1) (k2 : ∀ L s2 g2, q1 = .inr (L, s2, g2) → tkS T n s2 g2 = 44 → (o : Int) < 6 → FJ T n false h 0 (nxS T n s2) q2) : Gd n s (br2 T n o s g q1 q2) := by
  unfold br2
  by_cases c40 : tkS T n s g = 40
  · rw [if_pos c40]
    by_cases c6 : (o : Int) < 6
    · rw [if_pos c6]
      have hx1 := nx_in hT hv
      have hlt1 := hx1.2.2.1 (nx0 hT hv c40 (by decide))
      rcases hq : q1 with e | ⟨L1, s2, g2⟩
      · exact trivial
      · rw [hq] at k1
        obtain ⟨v2, l2, n2, t2⟩ := k1
        have n2' : (L1.length : Int) ≤ s2 - nxS T n s := by rw [show jL 0 = [] from rfl] at n2; simpa using n2
        by_cases c44 : tkS T n s2 g2 = 44
        · rw [sgR_ok c44]
          have fq2 := k2 L1 s2 g2 hq c44 c6
          have hx2 := nx_in hT v2
          rcases hqq : q2 with e | ⟨L2, s3, g3⟩
          · exact trivial
          · rw [hqq] at fq2
            obtain ⟨v3, l3, n3, t3⟩ := fq2
            have n3' : (L2.length : Int) ≤ s3 - nxS T n s2 := by rw [show jL 0 = [] from rfl] at n3; simpa using n3
            show Gd n s (sgR T n 41 (.inr (L1 ++ L2, s3, g3)))
            by_cases c41 : tkS T n s3 g3 = 41
            · rw [sgR_ok c41]
              have hx3 := nx_in hT v3
              exact ⟨by omega, hx3.1.2.1, by rw [List.length_append]; omega⟩
            · rw [sgR_no c41]; exact trivial
        · rw [sgR_no c44]; exact trivial
    · rw [if_neg c6]; exact trivial
  · rw [if_neg c40]; exact trivial
/-- sums: both come to one, at every place -/
theorem J_sums (b bx : Bool) {T : Int → Int} {n : Int} (hT : Tp T n) : ∀ (k : Nat) (s : Int) (g : Bool) (o : Nat), VC T n s → n - s ≤ k → o ≤ 6 → (∃ r, JP b bx T n o s g r) ∧ (∀ j, j = 0 ∨ j = 3 ∨ j = 4 → ∃ r, J3 b bx T n j o s g r) ∧ (∀ j, j = 0 ∨ j = 1 ∨ j = 2 → ∃ r, J2 b bx T n j o s g r) := by
  intro k
  induction k with
  | zero => 
    intro s g o hv hk ho
    have hsn : s = n := by have := hv.2.1; omega
    have hend : ∀ c : Int, c ≠ -1 → tkS T n s g ≠ c := fun c hc q => by have := nx0 hT hv q hc; omega
    have hw : ¬ 0 ≤ tkW T n s g := fun q => by have := (tkW_pos hT hv q).2.1; omega
    have hp0 : ∃ r, JP b bx T n o s g r := by
      refine ⟨prR T n s g (br1 T n o s g (.inl (0, 0))) (br2 T n o (nxS T n s) (nxG T n s g) (.inl (0, 0)) (.inl (0, 0))), ?_, ?_, ?_⟩
      · have hbr := cl_br (b := b) hT (D := dp o - 2) (by unfold dp; omega) (g := g) (by omega : (0 : Int) ≤ (o : Int)) (by omega) 0 (.inl (0, 0)) (.inl (0, 0)) (fun q => absurd q (hend 40 (by decide))) trivial (fun _ _ L s2 g2 q => by cases q)
        rw [if_pos rfl] at hbr
        have := cl_part hT (D := dp o - 1) (by unfold dp; omega) (o := (o : Int)) (s := s) (g := g) (br1 T n o s g (.inl (0, 0))) (br2 T n o (nxS T n s) (nxG T n s g) (.inl (0, 0)) (.inl (0, 0))) (fun _ _ _ _ => CSp_up hbr (by unfold dp; omega)) (fun q => by omega) (by
          unfold br2
          split
          · split <;> exact trivial
          · exact trivial)
        exact CSp_up this (by unfold dp; omega)
      · exact rf_part hT hv (by omega) (by omega) _ _ _ (fun q => absurd q (hend 40 (by decide))) (fun L s2 g2 q => by cases q) (fun q => by omega) (fun L s2 g2 q => by cases q) (fun L s2 g2 q => by cases q) (fun L s2 g2 q => by cases q)
      · exact pr_facts hT hv (fun q => absurd q (hend 40 (by decide))) (fun _ _ => trivial) (fun L s2 g2 q => by cases q)
    have nolp : ∀ {ro : CR}, FJ T n false (hp o) 0 s ro → ∀ L s1 g1, ro = .inr (L, s1, g1) → False := fun {ro} hf L s1 g1 q => by
      rw [q] at hf
      have := hf.1.2.1
      have := hf.2.1
      omega
    have h30 : ∀ j, j = 0 ∨ j = 3 ∨ j = 4 → ∃ r, J3 b bx T n j o s g r := fun j hj => by
      obtain ⟨ro, c1, c2, c3⟩ := hp0
      refine ⟨lpR T n 3 j ro (.inl (0, 0)), ?_, ?_, ?_, ?_⟩
      · exact cl_loop hT (by unfold dp; omega) ⟨by decide, by decide⟩ (by unfold isJ; omega) hv.2.1 ro _ c1 (Gd_FJ c3) (fun L s1 g1 q => (nolp c3 L s1 g1 q).elim)
      · exact rf_loop3 hT hj ro _ c2 (fun L s1 g1 q => (nolp c3 L s1 g1 q).elim)
      · exact lp_facts hT (Nat.le_refl _) (opF (by omega)) c3 (fun L s1 g1 q => (nolp c3 L s1 g1 q).elim)
      · exact fn_lp (fun L s1 g1 q => (nolp c3 L s1 g1 q).elim) (fun L s1 g1 q => (nolp c3 L s1 g1 q).elim)
    refine ⟨hp0, h30, fun j hj => ?_⟩
    obtain ⟨ro, c1, c2, c3, c4⟩ := h30 0 (Or.inl rfl)
    have nolp2 : ∀ L s1 g1, ro = .inr (L, s1, g1) → False := fun L s1 g1 q => by
      rw [q] at c3
      have := c3.1.2.1
      have := c3.2.1
      omega
    refine ⟨lpR T n 2 j ro (.inl (0, 0)), ?_, ?_, ?_, ?_⟩
    · exact cl_loop hT (by unfold dp; omega) ⟨by decide, by decide⟩ (by unfold isJ; omega) hv.2.1 ro _ (cl_chain c1 hv.1) (Gd_FJ c3) (fun L s1 g1 q => (nolp2 L s1 g1 q).elim)
    · exact rf_loop2 hT hj ro _ c2 (fun L s1 g1 q => (nolp2 L s1 g1 q).elim)
    · exact lp_facts hT (Nat.le_refl _) (opF (by omega)) c3 (fun L s1 g1 q => (nolp2 L s1 g1 q).elim)
    · exact fn_lp (fun L s1 g1 q => (nolp2 L s1 g1 q).elim) (fun L s1 g1 q => (nolp2 L s1 g1 q).elim)
  | succ k ih =>
    intro s g o hv hk ho
    have hx := nx_in hT hv
    have up2 : ∀ (s' : Int) (g' : Bool), VC T n s' → s < s' → o < 6 → ∃ r, CSp b T n (dp o - 2) 167 [mP 1, mI 2, mI ((o : Int) + 1)] s' g' r ∧ RLp bx T n 2 0 ((o : Int) + 1) s' g' r ∧ FJ T n false (hp (o + 1) + 2) 0 s' r ∧ fn2 T n r := fun s' g' hv' hs' ho6 => by
      obtain ⟨r, c1, c2, c3, c4⟩ := (ih s' g' (o + 1) hv' (by omega) (by omega)).2.2 0 (Or.inl rfl)
      exact ⟨r, CSp_up (cl_chain c1 hv'.1) (by unfold dp; omega), c2, c3, c4⟩
    have hp0 : ∃ r, JP b bx T n o s g r := by
      -- the sum in brackets here
      have h1 : ∃ r1 : CR, (tkS T n s g = 40 → (o : Int) < 6 → CSp b T n (dp o - 2) 167 [mP 1, mI 2, mI ((o : Int) + 1)] (nxS T n s) (nxG T n s g) r1 ∧ RLp bx T n 2 0 ((o : Int) + 1) (nxS T n s) (nxG T n s g) r1 ∧ FJ T n false (hp (o + 1) + 2) 0 (nxS T n s) r1) ∧ fn2 T n r1 ∧ Gd n (nxS T n s) r1 := by
        by_cases c : tkS T n s g = 40 ∧ (o : Int) < 6
        · obtain ⟨r, c1, c2, c3, c4⟩ := up2 (nxS T n s) (nxG T n s g) hx.1 (hx.2.2.1 (nx0 hT hv c.1 (by decide))) (by omega)
          exact ⟨r, fun _ _ => ⟨c1, c2, c3⟩, c4, Gd_FJ c3⟩
        · exact ⟨.inl (0, 0), fun q1 q2 => absurd ⟨q1, q2⟩ c, fun L s' g' q => (by cases q), trivial⟩
      obtain ⟨r1, a1, a2, a3⟩ := h1
      have h2 : ∃ q1 : CR, ((tkW T n s g = 20 ∨ tkW T n s g = 21) → tkS T n (nxS T n s) (nxG T n s g) = 40 → (o : Int) < 6 → CSp b T n (dp o - 2) 167 [mP 1, mI 2, mI ((o : Int) + 1)] (nxS T n (nxS T n s)) (nxG T n (nxS T n s) (nxG T n s g)) q1 ∧ RLp bx T n 2 0 ((o : Int) + 1) (nxS T n (nxS T n s)) (nxG T n (nxS T n s) (nxG T n s g)) q1) ∧ FJ T n false (hp (o + 1) + 2) 0 (nxS T n (nxS T n s)) q1 ∧ fn2 T n q1 ∧ (∀ L s2 g2, q1 = .inr (L, s2, g2) → s < s2) := by
        have hx1 := nx_in hT hx.1
        by_cases c : (tkW T n s g = 20 ∨ tkW T n s g = 21) ∧ tkS T n (nxS T n s) (nxG T n s g) = 40 ∧ (o : Int) < 6
        · have hsn := (tkW_pos hT hv (by omega : 0 ≤ tkW T n s g)).2.1
          have := hx.2.2.1 hsn
          obtain ⟨r, c1, c2, c3, c4⟩ := up2 _ (nxG T n (nxS T n s) (nxG T n s g)) hx1.1 (by omega) (by omega)
          refine ⟨r, fun _ _ _ => ⟨c1, c2⟩, c3, c4, fun L s2 g2 q => ?_⟩
          rw [q] at c3
          have := c3.2.1
          omega
        · exact ⟨.inl (0, 0), fun q1 q2 q3 => absurd ⟨q1, q2, q3⟩ c, trivial, fun L s' g' q => (by cases q), fun L s' g' q => by cases q⟩
      obtain ⟨q1, b1, b2, b3, b4⟩ := h2
      have h3 : ∃ q2 : CR, (∀ L s2 g2, q1 = .inr (L, s2, g2) → tkS T n s2 g2 = 44 → (o : Int) < 6 → CSp b T n (dp o - 2) 167 [mP 1, mI 2, mI ((o : Int) + 1)] (nxS T n s2) (nxG T n s2 g2) q2 ∧ RLp bx T n 2 0 ((o : Int) + 1) (nxS T n s2) (nxG T n s2 g2) q2 ∧ FJ T n false (hp (o + 1) + 2) 0 (nxS T n s2) q2) ∧ fn2 T n q2 := by
        rcases hq : q1 with e | ⟨L, s2, g2⟩
        · exact ⟨.inl (0, 0), fun L s' g' q => (by cases q), fun L s' g' q => by cases q⟩
        · rw [hq] at b2
          have hx2 := nx_in hT b2.1
          by_cases c : (o : Int) < 6
          · obtain ⟨r, c1, c2, c3, c4⟩ := up2 (nxS T n s2) (nxG T n s2 g2) hx2.1 (by have := b4 L s2 g2 hq; omega) (by omega)
            refine ⟨r, fun L' s' g' q _ _ => ?_, c4⟩
            cases q
            exact ⟨c1, c2, c3⟩
          · exact ⟨.inl (0, 0), fun L' s' g' _ _ q => absurd q c, fun L s' g' q => by cases q⟩
      obtain ⟨q2, d1, d2⟩ := h3
      have hpf := pr_facts (r1 := r1) (q1 := q1) (q2 := q2) (o := o) (g := g) hT hv (fun k1 k2 => (a1 k1 k2).2.2) (fun _ _ => b2) (fun L s2 g2 e1 e2 e3 => (d1 L s2 g2 e1 e2 e3).2.2)
      refine ⟨prR T n s g (br1 T n o s g r1) (br2 T n o (nxS T n s) (nxG T n s g) q1 q2), ?_, ?_, hpf⟩
      · have hbr := cl_br (b := b) hT (D := dp o - 2) (by unfold dp; omega) (g := g) (by omega : (0 : Int) ≤ (o : Int)) (by omega) 0 r1 (.inl (0, 0)) (fun k1 k2 => (a1 k1 k2).1) a3 (fun q => absurd rfl q)
        rw [if_pos rfl] at hbr
        have := cl_part hT (D := dp o - 1) (by unfold dp; omega) (o := (o : Int)) (s := s) (g := g) (br1 T n o s g r1) (br2 T n o (nxS T n s) (nxG T n s g) q1 q2) (fun _ _ _ _ => CSp_up hbr (by unfold dp; omega)) (fun hw => by
          have hb2 := cl_br (b := b) hT (D := dp o - 2) (by unfold dp; omega) (s := nxS T n s) (g := nxG T n s g) (by omega : (0 : Int) ≤ (o : Int)) (by omega) 1 q1 q2 (fun k1 k2 => (b1 hw k1 k2).1) (Gd_FJ b2) (fun _ k6 L s2 g2 e1 e2 => (d1 L s2 g2 e1 e2 k6).1)
          rw [if_neg (by decide)] at hb2
          exact CSp_up hb2 (by unfold dp; omega)) (br2_Gd hT hx.1 b2 (fun L s2 g2 e1 e2 e3 => (d1 L s2 g2 e1 e2 e3).2.2))
        exact CSp_up this (by unfold dp; omega)
      · exact rf_part hT hv (by omega) (by omega) r1 q1 q2 (fun k1 k2 => (a1 k1 k2).2.1) (fun L s2 g2 e => by have := a2 L s2 g2 e; exact fin2_of this.1 this.2) (fun k1 k2 k3 => (b1 k1 k2 k3).2) (fun L s2 g2 e => by have := b3 L s2 g2 e; exact fin2_of this.1 this.2) (fun L s2 g2 e1 e2 e3 => (d1 L s2 g2 e1 e2 e3).2.1) (fun L s2 g2 e => by have := d2 L s2 g2 e; exact fin2_of this.1 this.2)
    have h30 : ∀ j, j = 0 ∨ j = 3 ∨ j = 4 → ∃ r, J3 b bx T n j o s g r := fun j hj => by
      obtain ⟨ro, c1, c2, c3⟩ := hp0
      have hrl : ∃ rl : CR, ∀ L s1 g1, ro = .inr (L, s1, g1) → jnt T n s1 g1 3 ≠ 0 → J3 b bx T n (jnt T n s1 g1 3) o (nxS T n s1) (nxG T n s1 g1) rl := by
        rcases hq : ro with e | ⟨L, s1, g1⟩
        · exact ⟨.inl (0, 0), fun L s' g' q => by cases q⟩
        · rw [hq] at c3
          by_cases c : jnt T n s1 g1 3 = 0
          · exact ⟨.inl (0, 0), fun L' s' g' q hne => by cases q; exact absurd c hne⟩
          · have hx1 := nx_in hT c3.1
            obtain ⟨r, hr⟩ := (ih (nxS T n s1) (nxG T n s1 g1) o hx1.1 (by have := c3.2.1; omega) ho).2.1 _ (Or.inr (jnt_op3 c))
            exact ⟨r, fun L' s' g' q _ => by cases q; exact hr⟩
      obtain ⟨rl, hl⟩ := hrl
      refine ⟨lpR T n 3 j ro rl, ?_, ?_, ?_, ?_⟩
      · exact cl_loop hT (by unfold dp; omega) ⟨by decide, by decide⟩ (by unfold isJ; omega) hv.2.1 ro rl c1 (Gd_FJ c3) (fun L s1 g1 q hne => (hl L s1 g1 q hne).1)
      · exact rf_loop3 hT hj ro rl c2 (fun L s1 g1 q hne => (hl L s1 g1 q hne).2.1)
      · exact lp_facts hT (Nat.le_refl _) (opF (by omega)) c3 (fun L s1 g1 q hne => ⟨opF' (by have := jnt_op3 hne; omega), (hl L s1 g1 q hne).2.2.1⟩)
      · exact fn_lp (fun L s1 g1 q h0 => h0) (fun L s1 g1 q hne => (hl L s1 g1 q hne).2.2.2)
    refine ⟨hp0, h30, fun j hj => ?_⟩
    obtain ⟨ro, c1, c2, c3, c4⟩ := h30 0 (Or.inl rfl)
    have hrl : ∃ rl : CR, ∀ L s1 g1, ro = .inr (L, s1, g1) → jnt T n s1 g1 2 ≠ 0 → J2 b bx T n (jnt T n s1 g1 2) o (nxS T n s1) (nxG T n s1 g1) rl := by
      rcases hq : ro with e | ⟨L, s1, g1⟩
      · exact ⟨.inl (0, 0), fun L s' g' q => by cases q⟩
      · rw [hq] at c3
        by_cases c : jnt T n s1 g1 2 = 0
        · exact ⟨.inl (0, 0), fun L' s' g' q hne => by cases q; exact absurd c hne⟩
        · have hx1 := nx_in hT c3.1
          obtain ⟨r, hr⟩ := (ih (nxS T n s1) (nxG T n s1 g1) o hx1.1 (by have := c3.2.1; omega) ho).2.2 _ (Or.inr (jnt_op2 c))
          exact ⟨r, fun L' s' g' q _ => by cases q; exact hr⟩
    obtain ⟨rl, hl⟩ := hrl
    refine ⟨lpR T n 2 j ro rl, ?_, ?_, ?_, ?_⟩
    · exact cl_loop hT (by unfold dp; omega) ⟨by decide, by decide⟩ (by unfold isJ; omega) hv.2.1 ro rl (cl_chain c1 hv.1) (Gd_FJ c3) (fun L s1 g1 q hne => (hl L s1 g1 q hne).1)
    · exact rf_loop2 hT hj ro rl c2 (fun L s1 g1 q hne => (hl L s1 g1 q hne).2.1)
    · exact lp_facts hT (Nat.le_refl _) (opF (by omega)) c3 (fun L s1 g1 q hne => ⟨opF' (by have := jnt_op2 hne; omega), (hl L s1 g1 q hne).2.2.1⟩)
    · exact fn_lp (fun L s1 g1 q h0 => ⟨h0, c4 L s1 g1 q⟩) (fun L s1 g1 q hne => (hl L s1 g1 q hne).2.2.2)
