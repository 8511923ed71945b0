/-! ===== the reference's on: the row out of the tape ===== -/
theorem it_up {c : Prop} [Decidable c] {g gi v F O : Int} (hc : c ↔ g = gi) (hv : g = gi → v = F) : (if c then v else if g < gi then F else O) = if g < gi + 1 then F else O := by
  by_cases e : g = gi
  · rw [if_pos (hc.2 e), if_pos (by omega), hv e]
  · rw [if_neg (fun h => e (hc.1 h))]
    by_cases q : g < gi
    · rw [if_pos q, if_pos (by omega)]
    · rw [if_neg q, if_neg (by omega)]
def Wr (t o : Int → Int) (G M gi mi pi : Int) (f : Int → Int) : Prop := (f 0 = tw2 t 0 ∧ f 1 = t 2) ∧ (∀ g, 0 ≤ g → g < 12 → f (2 + g) = if g < gi then t (3 + g) else o (2 + g)) ∧ (∀ m, 0 ≤ m → m < 12 → f (14 + m) = (if m < mi then t (3 + G + 3 * m) else o (14 + m)) ∧ f (26 + m) = (if m < mi then tw2 t (3 + G + 3 * m + 1) else o (26 + m))) ∧ ∀ p, 0 ≤ p → p < 6 → f (38 + 4 * p + 0) = (if p < pi then t (3 + G + 3 * M + 6 * p) else o (38 + 4 * p + 0)) ∧ f (38 + 4 * p + 1) = (if p < pi then t (3 + G + 3 * M + 6 * p + 1) else o (38 + 4 * p + 1)) ∧ f (38 + 4 * p + 2) = (if p < pi then tw2 t (3 + G + 3 * M + 6 * p + 2) else o (38 + 4 * p + 2)) ∧ f (38 + 4 * p + 3) = (if p < pi then tw2 t (3 + G + 3 * M + 6 * p + 4) else o (38 + 4 * p + 3))
theorem Wr_g {t o f f' : Int → Int} {G M gi mi pi v : Int} (h : Wr t o G M gi mi pi f) (h0 : 0 ≤ gi) (h1 : gi < 12) (hv : v = t (3 + gi)) (hf : ∀ j, f' j = if j = 2 + gi then v else f j) : Wr t o G M (gi + 1) mi pi f' := by
  obtain ⟨⟨a0, a1⟩, aG, aM, aP⟩ := h
  refine ⟨⟨?_, ?_⟩, fun g g0 g1 => ?_, fun m m0 m1 => ⟨?_, ?_⟩, fun p p0 p1 => ⟨?_, ?_, ?_, ?_⟩⟩
  · rw [hf, if_neg (by omega), a0]
  · rw [hf, if_neg (by omega), a1]
  · rw [hf, aG g g0 g1]; exact it_up (by omega) (fun e => by rw [hv, e])
  · rw [hf, if_neg (by omega)]; exact (aM m m0 m1).1
  · rw [hf, if_neg (by omega)]; exact (aM m m0 m1).2
  · rw [hf, if_neg (by omega)]; exact (aP p p0 p1).1
  · rw [hf, if_neg (by omega)]; exact (aP p p0 p1).2.1
  · rw [hf, if_neg (by omega)]; exact (aP p p0 p1).2.2.1
  · rw [hf, if_neg (by omega)]; exact (aP p p0 p1).2.2.2
theorem Wr_m {t o f f' : Int → Int} {G M gi mi pi v w : Int} (h : Wr t o G M gi mi pi f) (h0 : 0 ≤ mi) (h1 : mi < 12) (hv : v = t (3 + G + 3 * mi)) (hw : w = tw2 t (3 + G + 3 * mi + 1)) (hf : ∀ j, f' j = if j = 26 + mi then w else if j = 14 + mi then v else f j) : Wr t o G M gi (mi + 1) pi f' := by
  obtain ⟨⟨a0, a1⟩, aG, aM, aP⟩ := h
  refine ⟨⟨?_, ?_⟩, fun g g0 g1 => ?_, fun m m0 m1 => ⟨?_, ?_⟩, fun p p0 p1 => ⟨?_, ?_, ?_, ?_⟩⟩
  · rw [hf, if_neg (by omega), if_neg (by omega), a0]
  · rw [hf, if_neg (by omega), if_neg (by omega), a1]
  · rw [hf, if_neg (by omega), if_neg (by omega)]; exact aG g g0 g1
  · rw [hf, if_neg (by omega), (aM m m0 m1).1]; exact it_up (by omega) (fun e => by rw [hv, e])
  · rw [hf, if_neg (show ¬ (26 + m = 14 + mi) by omega), (aM m m0 m1).2]; exact it_up (by omega) (fun e => by rw [hw, e])
  · rw [hf, if_neg (by omega), if_neg (by omega)]; exact (aP p p0 p1).1
  · rw [hf, if_neg (by omega), if_neg (by omega)]; exact (aP p p0 p1).2.1
  · rw [hf, if_neg (by omega), if_neg (by omega)]; exact (aP p p0 p1).2.2.1
  · rw [hf, if_neg (by omega), if_neg (by omega)]; exact (aP p p0 p1).2.2.2
theorem Wr_p {t o f f' : Int → Int} {G M gi mi pi v0 v1 v2 v3 : Int} (h : Wr t o G M gi mi pi f) (h0 : 0 ≤ pi) (h1 : pi < 6) (q0 : v0 = t (3 + G + 3 * M + 6 * pi)) (q1 : v1 = t (3 + G + 3 * M + 6 * pi + 1)) (q2 : v2 = tw2 t (3 + G + 3 * M + 6 * pi + 2)) (q3 : v3 = tw2 t (3 + G + 3 * M + 6 * pi + 4)) (hf : ∀ j, f' j = if j = 38 + 4 * pi + 3 then v3 else if j = 38 + 4 * pi + 2 then v2 else if j = 38 + 4 * pi + 1 then v1 else if j = 38 + 4 * pi then v0 else f j) : Wr t o G M gi mi (pi + 1) f' := by
  obtain ⟨⟨a0, a1⟩, aG, aM, aP⟩ := h
  refine ⟨⟨?_, ?_⟩, fun g g0 g1 => ?_, fun m m0 m1 => ⟨?_, ?_⟩, fun p p0 p1 => ⟨?_, ?_, ?_, ?_⟩⟩
  · rw [hf, if_neg (by omega), if_neg (by omega), if_neg (by omega), if_neg (by omega), a0]
  · rw [hf, if_neg (by omega), if_neg (by omega), if_neg (by omega), if_neg (by omega), a1]
  · rw [hf, if_neg (by omega), if_neg (by omega), if_neg (by omega), if_neg (by omega)]; exact aG g g0 g1
  · rw [hf, if_neg (by omega), if_neg (by omega), if_neg (by omega), if_neg (by omega)]; exact (aM m m0 m1).1
  · rw [hf, if_neg (by omega), if_neg (by omega), if_neg (by omega), if_neg (by omega)]; exact (aM m m0 m1).2
  · rw [hf, if_neg (by omega), if_neg (by omega), if_neg (by omega), (aP p p0 p1).1]; exact it_up (by omega) (fun e => by rw [q0, e])
  · rw [hf, if_neg (by omega), if_neg (by omega), if_neg (show ¬ (38 + 4 * p + 1 = 38 + 4 * pi) by omega), (aP p p0 p1).2.1]; exact it_up (by omega) (fun e => by rw [q1, e])
  · rw [hf, if_neg (by omega), if_neg (show ¬ (38 + 4 * p + 2 = 38 + 4 * pi + 1) by omega), if_neg (show ¬ (38 + 4 * p + 2 = 38 + 4 * pi) by omega), (aP p p0 p1).2.2.1]; exact it_up (by omega) (fun e => by rw [q2, e])
  · rw [hf, if_neg (show ¬ (38 + 4 * p + 3 = 38 + 4 * pi + 2) by omega), if_neg (show ¬ (38 + 4 * p + 3 = 38 + 4 * pi + 1) by omega), if_neg (show ¬ (38 + 4 * p + 3 = 38 + 4 * pi) by omega), (aP p p0 p1).2.2.2]; exact it_up (by omega) (fun e => by rw [q3, e])
/-- what on leaves of the reference -/
theorem sX10_on (b : Bool) (μ : Nat → Int → Int) (hR : R b μ) {μ1 : Nat → Int → Int} (hk : ∀ a, 97 ≤ a → μ1 a = μ a) (h96 : μ1 96 = μ 96) : ∀ d, 4 ≤ d → Cal d 95 [mP 96] b μ1 (fun v μ' => (¬ onOK b μ ∧ v = 0 ∧ (∀ a, a ≠ 96 → μ' a = μ1 a) ∧ (∀ j, j ≠ 1 → μ' 96 j = μ1 96 j) ∧ μ' 96 1 = 0) ∨ (onOK b μ ∧ v = 1 ∧ (∀ a, a ≠ 96 → a ≠ 133 → μ' a = μ1 a) ∧ (∀ j, j ≠ 1 → j ≠ 58 → μ' 96 j = μ1 96 j) ∧ μ' 96 1 = 0 ∧ μ' 96 58 = 0 ∧ Wr (μ 3) (μ1 133) (μ (tw b + 1) 2) (μ (tw b + 1) 1) (μ (tw b + 1) 2) (μ (tw b + 1) 1) (μ (tw b + 1) 3) (μ' 133))) := deepC fun d hd => by
  have hCn := hR.1.1
  obtain ⟨⟨z1, z2, z3⟩, ⟨w1, w2, w3⟩, ⟨y1, y2, y3⟩, ⟨x1, x2, x3⟩⟩ := hCn
  obtain ⟨⟨t1, t2, t3⟩, t4⟩ := hR.2.2.2.1.1
  have hbt : ∀ i, 0 ≤ i → i < 1600 → 0 ≤ μ 3 i ∧ μ 3 i ≤ 255 := fun i i0 i1 => (t4 i i0 i1).2
  have kt : ∀ {μ' : Nat → Int → Int}, (∀ a, a ≠ 96 → a ≠ 133 → μ' a = μ1 a) → μ' 120 = μ 120 ∧ ∀ i, 0 ≤ i → i < 1600 → μ' 97 i = μ 3 i := fun {μ'} hf => ⟨by rw [hf 120 (by decide) (by decide), hk 120 (by decide)], fun i i0 i1 => by rw [hf 97 (by decide) (by decide), hk 97 (by decide)]; exact (t4 i i0 i1).1⟩
  have tA : ∀ {μ' : Nat → Int → Int}, (∀ a, a ≠ 96 → a ≠ 133 → μ' a = μ1 a) → ∀ k, 0 ≤ k → k < 1500 → mCallN d 125 [mP 96, mI k] (SH, μ', RHO b) = some (tw2 (μ 3) k, SH, μ', RHO b) := fun {μ'} hf k k0 k1 => by
    have k97 := (kt hf).2
    have := sX10_tapeAt k b μ' k0 k1 (fun i i0 i1 => by rw [k97 i i0 i1]; exact hbt i i0 i1) d (by omega)
    rw [show tw2 (μ' 97) k = tw2 (μ 3) k by unfold tw2; rw [k97 k k0 (by omega), k97 (k + 1) (by omega) (by omega)]] at this
    exact this
  have gM : ∀ {μ' : Nat → Int → Int}, (∀ a, a ≠ 96 → a ≠ 133 → μ' a = μ1 a) → mCallN d 47 [mP 96] (SH, μ', RHO b) = some (μ (tw b + 1) 2, SH, μ', RHO b) := fun {μ'} hf => by have := sX10_gateMany b μ' d (by omega); rw [(kt hf).1, y1] at this; exact this
  have mM : ∀ {μ' : Nat → Int → Int}, (∀ a, a ≠ 96 → a ≠ 133 → μ' a = μ1 a) → mCallN d 84 [mP 96] (SH, μ', RHO b) = some (μ (tw b + 1) 1, SH, μ', RHO b) := fun {μ'} hf => by have := sX10_manMany b μ' d (by omega); rw [(kt hf).1, w1] at this; exact this
  have pM : ∀ {μ' : Nat → Int → Int}, (∀ a, a ≠ 96 → a ≠ 133 → μ' a = μ1 a) → mCallN d 102 [mP 96] (SH, μ', RHO b) = some (μ (tw b + 1) 3, SH, μ', RHO b) := fun {μ'} hf => by have := sX10_personMany b μ' d (by omega); rw [(kt hf).1, x1] at this; exact this
  have e1 : w32 (3 + μ (tw b + 1) 2) = 3 + μ (tw b + 1) 2 := w32_id (by omega) (by omega)
  have e2 : w32 (3 * μ (tw b + 1) 1) = 3 * μ (tw b + 1) 1 := w32_id (by omega) (by omega)
  have e3 : w32 (3 + μ (tw b + 1) 2 + 3 * μ (tw b + 1) 1) = 3 + μ (tw b + 1) 2 + 3 * μ (tw b + 1) 1 := w32_id (by omega) (by omega)
  have hI := sX10_isTold (μ1 96 1) b μ hR (μ1 := m2 μ1 96 1 0) (fun a ha => by rw [m2_ne (by omega), hk a ha]) (by rw [h96, t1]) d (by omega)
  refine cal_ev (fun r => call_X10_on d b μ1) (ev_row (fun m => tX10_on_0 _ m b μ1) (ev_callP hI (fun v1 μ2 ⟨f2, h2⟩ => ?_)))
  subst f2
  rcases h2 with ⟨e, h2⟩ | ⟨e, h2⟩
  · have hf0 : ∀ a, a ≠ 96 → a ≠ 133 → (m2 μ1 96 1 0) a = μ1 a := fun a a1 _ => m2_ne a1
    have lpP : ∀ (k : Nat) (i : Int) (v5 : Option mV) (μ' : Nat → Int → Int), 0 ≤ i → i + k = μ (tw b + 1) 3 → (∀ a, a ≠ 96 → a ≠ 133 → μ' a = μ1 a) → (∀ j, j ≠ 1 → μ' 96 j = μ1 96 j) → μ' 96 1 = 0 → Wr (μ 3) (μ1 133) (μ (tw b + 1) 2) (μ (tw b + 1) 1) (μ (tw b + 1) 2) (μ (tw b + 1) 1) i (μ' 133) → Ev (fun m => mRun (mCallN d) kX10_on m 159 [some (mP 96), some (mI (μ1 96 1)), some (mI (3 + μ (tw b + 1) 2)), some (mI (3 + μ (tw b + 1) 2 + 3 * μ (tw b + 1) 1)), some (mI i), v5] [] (SH, μ', RHO b)) b (fun v μ' => (¬ onOK b μ ∧ v = 0 ∧ (∀ a, a ≠ 96 → μ' a = μ1 a) ∧ (∀ j, j ≠ 1 → μ' 96 j = μ1 96 j) ∧ μ' 96 1 = 0) ∨ (onOK b μ ∧ v = 1 ∧ (∀ a, a ≠ 96 → a ≠ 133 → μ' a = μ1 a) ∧ (∀ j, j ≠ 1 → j ≠ 58 → μ' 96 j = μ1 96 j) ∧ μ' 96 1 = 0 ∧ μ' 96 58 = 0 ∧ Wr (μ 3) (μ1 133) (μ (tw b + 1) 2) (μ (tw b + 1) 1) (μ (tw b + 1) 2) (μ (tw b + 1) 1) (μ (tw b + 1) 3) (μ' 133))) := by
      intro k
      induction k with
      | zero =>
        intro i v5 μ' h0 hk' hf hj hl hW
        have hi : i = μ (tw b + 1) 3 := by omega
        rw [hi] at hW
        refine ev_row (fun m => tX10_on_159 _ m b μ' _ _ _ i v5) (ev_call (pM hf) (ev_neg (by show ¬ (i < μ (tw b + 1) 3); omega) (ev_ret (Or.inr ⟨h2, rfl, fun a a1 a2 => ?_, fun j j1 j2 => ?_, ?_, ?_, ?_⟩))))
        · rw [m2_ne a1]; exact hf a a1 a2
        · rw [m2_at, if_neg j2]; exact hj j j1
        · rw [m2_at, if_neg (by decide)]; exact hl
        · rw [m2_at, if_pos rfl]
        · rw [m2_ne (by decide)]; exact hW
      | succ k ih =>
        intro i v5 μ' h0 hk' hf hj hl hW
        have a1 : w32 (6 * i) = 6 * i := w32_id (by omega) (by omega)
        have a2 : w32 (3 + μ (tw b + 1) 2 + 3 * μ (tw b + 1) 1 + 6 * i) = 3 + μ (tw b + 1) 2 + 3 * μ (tw b + 1) 1 + 6 * i := w32_id (by omega) (by omega)
        have a3 : w32 (4 * i) = 4 * i := w32_id (by omega) (by omega)
        have a4 : w32 (38 + 4 * i) = 38 + 4 * i := w32_id (by omega) (by omega)
        have a5 : w32 (38 + 4 * i + 1) = 38 + 4 * i + 1 := w32_id (by omega) (by omega)
        have a6 : w32 (38 + 4 * i + 2) = 38 + 4 * i + 2 := w32_id (by omega) (by omega)
        have a7 : w32 (38 + 4 * i + 3) = 38 + 4 * i + 3 := w32_id (by omega) (by omega)
        have a8 : w32 (3 + μ (tw b + 1) 2 + 3 * μ (tw b + 1) 1 + 6 * i + 1) = 3 + μ (tw b + 1) 2 + 3 * μ (tw b + 1) 1 + 6 * i + 1 := w32_id (by omega) (by omega)
        have a9 : w32 (3 + μ (tw b + 1) 2 + 3 * μ (tw b + 1) 1 + 6 * i + 2) = 3 + μ (tw b + 1) 2 + 3 * μ (tw b + 1) 1 + 6 * i + 2 := w32_id (by omega) (by omega)
        have a10 : w32 (3 + μ (tw b + 1) 2 + 3 * μ (tw b + 1) 1 + 6 * i + 4) = 3 + μ (tw b + 1) 2 + 3 * μ (tw b + 1) 1 + 6 * i + 4 := w32_id (by omega) (by omega)
        have a11 : w32 (i + 1) = i + 1 := w32_id (by omega) (by omega)
        have k97 := (kt hf).2
        refine ev_row (fun m => tX10_on_159 _ m b μ' _ _ _ i v5) ?_
        rw [a1, a2, a3, a4, a5, a6, a7, a8, a9, a10, a11]
        refine ev_call (pM hf) (ev_pos (by show i < μ (tw b + 1) 3; omega) (ev_if (by omega) (ev_if (by omega) (ev_if (by omega) (ev_if (by omega) ?_)))))
        refine ev_call (tA (fun a b1 b2 => by rw [m2_ne b2, m2_ne b2]; exact hf a b1 b2) _ (by omega) (by omega)) (ev_if (by omega) ?_)
        refine ev_call (tA (fun a b1 b2 => by dsimp only; rw [m2_ne b2, m2_ne b2, m2_ne b2]; exact hf a b1 b2) _ (by omega) (by omega)) (ev_if (by omega) ?_)
        refine ih (i + 1) _ _ (by omega) (by omega) (fun a b1 b2 => ?_) (fun j j1 => ?_) ?_ (Wr_p hW h0 (by omega) (v0 := μ' 97 (3 + μ (tw b + 1) 2 + 3 * μ (tw b + 1) 1 + 6 * i)) (v1 := μ' 97 (3 + μ (tw b + 1) 2 + 3 * μ (tw b + 1) 1 + 6 * i + 1)) (k97 _ (by omega) (by omega)) (k97 _ (by omega) (by omega)) rfl rfl (fun j => ?_))
        · dsimp only; rw [m2_ne b2, m2_ne b2, m2_ne b2, m2_ne b2]; exact hf a b1 b2
        · dsimp only; rw [m2_ne (by decide), m2_ne (by decide), m2_ne (by decide), m2_ne (by decide)]; exact hj j j1
        · dsimp only; rw [m2_ne (by decide), m2_ne (by decide), m2_ne (by decide), m2_ne (by decide)]; exact hl
        · dsimp only; rw [m2_at, m2_at, m2_at, m2_at, m2_ne (show (97 : Nat) ≠ 133 by decide)]
    have lpM : ∀ (k : Nat) (i : Int) (μ' : Nat → Int → Int), 0 ≤ i → i + k = μ (tw b + 1) 1 → (∀ a, a ≠ 96 → a ≠ 133 → μ' a = μ1 a) → (∀ j, j ≠ 1 → μ' 96 j = μ1 96 j) → μ' 96 1 = 0 → Wr (μ 3) (μ1 133) (μ (tw b + 1) 2) (μ (tw b + 1) 1) (μ (tw b + 1) 2) i 0 (μ' 133) → Ev (fun m => mRun (mCallN d) kX10_on m 98 [some (mP 96), some (mI (μ1 96 1)), some (mI (3 + μ (tw b + 1) 2)), some (mI (3 + μ (tw b + 1) 2 + 3 * μ (tw b + 1) 1)), some (mI i), none] [] (SH, μ', RHO b)) b (fun v μ' => (¬ onOK b μ ∧ v = 0 ∧ (∀ a, a ≠ 96 → μ' a = μ1 a) ∧ (∀ j, j ≠ 1 → μ' 96 j = μ1 96 j) ∧ μ' 96 1 = 0) ∨ (onOK b μ ∧ v = 1 ∧ (∀ a, a ≠ 96 → a ≠ 133 → μ' a = μ1 a) ∧ (∀ j, j ≠ 1 → j ≠ 58 → μ' 96 j = μ1 96 j) ∧ μ' 96 1 = 0 ∧ μ' 96 58 = 0 ∧ Wr (μ 3) (μ1 133) (μ (tw b + 1) 2) (μ (tw b + 1) 1) (μ (tw b + 1) 2) (μ (tw b + 1) 1) (μ (tw b + 1) 3) (μ' 133))) := by
      intro k
      induction k with
      | zero =>
        intro i μ' h0 hk' hf hj hl hW
        have hi : i = μ (tw b + 1) 1 := by omega
        rw [hi] at hW
        refine ev_row (fun m => tX10_on_98 _ m b μ' _ _ _ i) (ev_call (mM hf) (ev_neg (by show ¬ (i < μ (tw b + 1) 1); omega) ?_))
        exact lpP (μ (tw b + 1) 3).toNat 0 none μ' (by decide) (by omega) hf hj hl hW
      | succ k ih =>
        intro i μ' h0 hk' hf hj hl hW
        have a1 : w32 (3 * i) = 3 * i := w32_id (by omega) (by omega)
        have a2 : w32 (3 + μ (tw b + 1) 2 + 3 * i) = 3 + μ (tw b + 1) 2 + 3 * i := w32_id (by omega) (by omega)
        have a3 : w32 (14 + i) = 14 + i := w32_id (by omega) (by omega)
        have a4 : w32 (26 + i) = 26 + i := w32_id (by omega) (by omega)
        have a5 : w32 (3 + μ (tw b + 1) 2 + 3 * i + 1) = 3 + μ (tw b + 1) 2 + 3 * i + 1 := w32_id (by omega) (by omega)
        have a11 : w32 (i + 1) = i + 1 := w32_id (by omega) (by omega)
        have k97 := (kt hf).2
        refine ev_row (fun m => tX10_on_98 _ m b μ' _ _ _ i) ?_
        rw [a1, a2, a3, a4, a5, a11]
        refine ev_call (mM hf) (ev_pos (by show i < μ (tw b + 1) 1; omega) (ev_if (by omega) (ev_if (by omega) ?_)))
        refine ev_call (tA (fun a b1 b2 => by rw [m2_ne b2]; exact hf a b1 b2) _ (by omega) (by omega)) (ev_if (by omega) ?_)
        refine ih (i + 1) _ (by omega) (by omega) (fun a b1 b2 => ?_) (fun j j1 => ?_) ?_ (Wr_m hW h0 (by omega) (v := μ' 97 (3 + μ (tw b + 1) 2 + 3 * i)) (k97 _ (by omega) (by omega)) rfl (fun j => ?_))
        · dsimp only; rw [m2_ne b2, m2_ne b2]; exact hf a b1 b2
        · dsimp only; rw [m2_ne (by decide), m2_ne (by decide)]; exact hj j j1
        · dsimp only; rw [m2_ne (by decide), m2_ne (by decide)]; exact hl
        · dsimp only; rw [m2_at, m2_at]
    have lpG : ∀ (k : Nat) (i : Int) (μ' : Nat → Int → Int), 0 ≤ i → i + k = μ (tw b + 1) 2 → (∀ a, a ≠ 96 → a ≠ 133 → μ' a = μ1 a) → (∀ j, j ≠ 1 → μ' 96 j = μ1 96 j) → μ' 96 1 = 0 → Wr (μ 3) (μ1 133) (μ (tw b + 1) 2) (μ (tw b + 1) 1) i 0 0 (μ' 133) → Ev (fun m => mRun (mCallN d) kX10_on m 62 [some (mP 96), some (mI (μ1 96 1)), some (mI (3 + μ (tw b + 1) 2)), some (mI (3 + μ (tw b + 1) 2 + 3 * μ (tw b + 1) 1)), some (mI i), none] [] (SH, μ', RHO b)) b (fun v μ' => (¬ onOK b μ ∧ v = 0 ∧ (∀ a, a ≠ 96 → μ' a = μ1 a) ∧ (∀ j, j ≠ 1 → μ' 96 j = μ1 96 j) ∧ μ' 96 1 = 0) ∨ (onOK b μ ∧ v = 1 ∧ (∀ a, a ≠ 96 → a ≠ 133 → μ' a = μ1 a) ∧ (∀ j, j ≠ 1 → j ≠ 58 → μ' 96 j = μ1 96 j) ∧ μ' 96 1 = 0 ∧ μ' 96 58 = 0 ∧ Wr (μ 3) (μ1 133) (μ (tw b + 1) 2) (μ (tw b + 1) 1) (μ (tw b + 1) 2) (μ (tw b + 1) 1) (μ (tw b + 1) 3) (μ' 133))) := by
      intro k
      induction k with
      | zero =>
        intro i μ' h0 hk' hf hj hl hW
        have hi : i = μ (tw b + 1) 2 := by omega
        rw [hi] at hW
        refine ev_row (fun m => tX10_on_62 _ m b μ' _ _ _ i) (ev_call (gM hf) (ev_neg (by show ¬ (i < μ (tw b + 1) 2); omega) ?_))
        exact lpM (μ (tw b + 1) 1).toNat 0 μ' (by decide) (by omega) hf hj hl hW
      | succ k ih =>
        intro i μ' h0 hk' hf hj hl hW
        have a1 : w32 (3 + i) = 3 + i := w32_id (by omega) (by omega)
        have a2 : w32 (2 + i) = 2 + i := w32_id (by omega) (by omega)
        have a11 : w32 (i + 1) = i + 1 := w32_id (by omega) (by omega)
        have k97 := (kt hf).2
        refine ev_row (fun m => tX10_on_62 _ m b μ' _ _ _ i) ?_
        rw [a1, a2, a11]
        refine ev_call (gM hf) (ev_pos (by show i < μ (tw b + 1) 2; omega) (ev_if (by omega) (ev_if (by omega) ?_)))
        refine ih (i + 1) _ (by omega) (by omega) (fun a b1 b2 => ?_) (fun j j1 => ?_) ?_ (Wr_g hW h0 (by omega) (v := μ' 97 (3 + i)) (k97 _ (by omega) (by omega)) (fun j => ?_))
        · dsimp only; rw [m2_ne b2]; exact hf a b1 b2
        · dsimp only; rw [m2_ne (by decide)]; exact hj j j1
        · dsimp only; rw [m2_ne (by decide)]; exact hl
        · dsimp only; rw [m2_at]
    refine ev_neg (by show ¬ v1 = 0; omega) (ev_call (gM hf0) (ev_call (mM hf0) (ev_call (tA hf0 0 (by decide) (by decide)) ?_)))
    dsimp only
    rw [e1, e2, e3]
    refine lpG (μ (tw b + 1) 2).toNat 0 _ (by decide) (by omega) (fun a b1 b2 => ?_) (fun j j1 => ?_) ?_ ⟨⟨?_, ?_⟩, fun g g0 g1 => ?_, fun m m0 m1 => ⟨?_, ?_⟩, fun p p0 p1 => ⟨?_, ?_, ?_, ?_⟩⟩
    · rw [m2_ne b2, m2_ne b2, m2_ne b1]
    · rw [m2_ne (by decide), m2_ne (by decide), m2_at, if_neg j1]
    · rw [m2_ne (by decide), m2_ne (by decide), m2_at, if_pos rfl]
    · rw [m2_at, if_neg (by decide), m2_at, if_pos rfl]
    · rw [m2_at, if_pos rfl, m2_ne (by decide), m2_ne (by decide)]; exact (kt (fun _ _ _ => rfl)).2 2 (by decide) (by decide)
    all_goals rw [m2_at, if_neg (by omega), m2_at, if_neg (by omega), m2_ne (by decide), if_neg (by omega)]
  · refine ev_pos (show v1 = 0 from e) (ev_ret (Or.inl ⟨h2, rfl, fun a a1 => m2_ne a1, fun j j1 => ?_, ?_⟩))
    · show m2 μ1 96 1 0 96 j = μ1 96 j
      rw [m2_at, if_neg j1]
    · show m2 μ1 96 1 0 96 1 = 0
      rw [m2_at, if_pos rfl]
