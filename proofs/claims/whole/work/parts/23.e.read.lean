/-! ===== an image read back ===== -/
def tw2 (t : Int → Int) (k : Int) : Int := 256 * t k + t (k + 1)
/-- the row that bytes tell, as far as read: gates, men, people -/
def rowQ (t : Int → Int) (G M gi mi pi : Int) : Int → Int := fun x => if x = 0 then tw2 t 0 else if x = 1 then t 2 else if 2 ≤ x ∧ x < 2 + gi then t (1 + x) else if 14 ≤ x ∧ x < 14 + mi then t (3 + G + 3 * (x - 14)) else if 26 ≤ x ∧ x < 26 + mi then tw2 t (3 + G + 3 * (x - 26) + 1) else if 38 ≤ x ∧ x < 38 + pi then t (3 + G + 3 * M + 6 * (x - 38)) else if 44 ≤ x ∧ x < 44 + pi then t (3 + G + 3 * M + 6 * (x - 44) + 1) else if 50 ≤ x ∧ x < 50 + pi then tw2 t (3 + G + 3 * M + 6 * (x - 50) + 2) else if 56 ≤ x ∧ x < 56 + pi then tw2 t (3 + G + 3 * M + 6 * (x - 56) + 4) else 0
theorem rowQ_g {t : Int → Int} {G M gi : Int} (h0 : 0 ≤ gi) (h1 : gi < 12) (x : Int) : (if x = 2 + gi then t (3 + gi) else rowQ t G M gi 0 0 x) = rowQ t G M (gi + 1) 0 0 x := by
  by_cases e : x = 2 + gi
  · rw [if_pos e]; unfold rowQ
    rw [if_neg (by omega), if_neg (by omega), if_pos (by omega)]; congr 1; omega
  · rw [if_neg e]; unfold rowQ
    simp only [show (2 ≤ x ∧ x < 2 + (gi + 1)) = (2 ≤ x ∧ x < 2 + gi) from propext (by omega)]
theorem rowQ_m {t : Int → Int} {G M mi : Int} (hG : 0 ≤ G ∧ G ≤ 12) (h0 : 0 ≤ mi) (h1 : mi < 12) (x : Int) : (if x = 26 + mi then tw2 t (3 + G + 3 * mi + 1) else if x = 14 + mi then t (3 + G + 3 * mi) else rowQ t G M G mi 0 x) = rowQ t G M G (mi + 1) 0 x := by
  by_cases e : x = 26 + mi
  · rw [if_pos e]; unfold rowQ
    rw [if_neg (by omega), if_neg (by omega), if_neg (by omega), if_neg (by omega), if_pos (by omega)]; congr 1; omega
  · rw [if_neg e]
    by_cases e2 : x = 14 + mi
    · rw [if_pos e2]; unfold rowQ
      rw [if_neg (by omega), if_neg (by omega), if_neg (by omega), if_pos (by omega)]; congr 1; omega
    · rw [if_neg e2]; unfold rowQ
      simp only [show (14 ≤ x ∧ x < 14 + (mi + 1)) = (14 ≤ x ∧ x < 14 + mi) from propext (by omega), show (26 ≤ x ∧ x < 26 + (mi + 1)) = (26 ≤ x ∧ x < 26 + mi) from propext (by omega)]
theorem rowQ_p {t : Int → Int} {G M pi : Int} (hG : 0 ≤ G ∧ G ≤ 12) (hM : 0 ≤ M ∧ M ≤ 12) (h0 : 0 ≤ pi) (h1 : pi < 6) (x : Int) : (if x = 56 + pi then tw2 t (3 + G + 3 * M + 6 * pi + 4) else if x = 50 + pi then tw2 t (3 + G + 3 * M + 6 * pi + 2) else if x = 44 + pi then t (3 + G + 3 * M + 6 * pi + 1) else if x = 38 + pi then t (3 + G + 3 * M + 6 * pi) else rowQ t G M G M pi x) = rowQ t G M G M (pi + 1) x := by
  by_cases e : x = 56 + pi
  · rw [if_pos e]; unfold rowQ
    rw [if_neg (by omega), if_neg (by omega), if_neg (by omega), if_neg (by omega), if_neg (by omega), if_neg (by omega), if_neg (by omega), if_neg (by omega), if_pos (by omega)]; congr 1; omega
  rw [if_neg e]
  by_cases e2 : x = 50 + pi
  · rw [if_pos e2]; unfold rowQ
    rw [if_neg (by omega), if_neg (by omega), if_neg (by omega), if_neg (by omega), if_neg (by omega), if_neg (by omega), if_neg (by omega), if_pos (by omega)]; congr 1; omega
  rw [if_neg e2]
  by_cases e3 : x = 44 + pi
  · rw [if_pos e3]; unfold rowQ
    rw [if_neg (by omega), if_neg (by omega), if_neg (by omega), if_neg (by omega), if_neg (by omega), if_neg (by omega), if_pos (by omega)]; congr 1; omega
  rw [if_neg e3]
  by_cases e4 : x = 38 + pi
  · rw [if_pos e4]; unfold rowQ
    rw [if_neg (by omega), if_neg (by omega), if_neg (by omega), if_neg (by omega), if_neg (by omega), if_pos (by omega)]; congr 1; omega
  rw [if_neg e4]; unfold rowQ
  simp only [show (38 ≤ x ∧ x < 38 + (pi + 1)) = (38 ≤ x ∧ x < 38 + pi) from propext (by omega), show (44 ≤ x ∧ x < 44 + (pi + 1)) = (44 ≤ x ∧ x < 44 + pi) from propext (by omega), show (50 ≤ x ∧ x < 50 + (pi + 1)) = (50 ≤ x ∧ x < 50 + pi) from propext (by omega), show (56 ≤ x ∧ x < 56 + (pi + 1)) = (56 ≤ x ∧ x < 56 + pi) from propext (by omega)]
theorem sX6_byteAt (k : Int) (b : Bool) (μ : Nat → Int → Int) (h0 : 0 ≤ k) (h1 : k < μ 2 1) (h2 : μ 2 1 ≤ 1600) : ∀ d, 1 ≤ d → mCallN d 191 [mP 2, mI k] (SH, μ, RHO b) = some (μ 3 k, SH, μ, RHO b) := deep fun d _ => by
  refine call_X6_byteAt d b μ k ⟨2, ?_⟩
  rw [tX6_byteAt_0, mBr_neg (by omega), mBr_pos h1, if_pos (by omega), tX6_byteAt_22]
theorem or_two {a c : Int} (h0 : 0 ≤ a) (h1 : a ≤ 255) (h2 : 0 ≤ c) (h3 : c ≤ 255) : iOr (iShl a 8) c = 256 * a + c := by
  have H : ∀ j : Fin 256, iShl ((j.1 : Nat) : Int) 8 = 256 * (j.1 : Nat) := by decide +kernel
  have e : iShl a 8 = 256 * a := by
    have := H ⟨a.toNat, by omega⟩
    rwa [show ((a.toNat : Nat) : Int) = a by omega] at this
  rw [e, iOr_n (by omega) (by omega) h2 (by omega)]
  have h := Nat.two_pow_add_eq_or_of_lt (i := 8) (b := c.toNat) (by omega) a.toNat
  have e2 : (256 * a).toNat = 2 ^ 8 * a.toNat := by omega
  rw [e2, ← h]; omega
theorem sX1_two (k : Int) (b : Bool) (μ : Nat → Int → Int) (h0 : 0 ≤ k) (h1 : k + 1 < μ 2 1) (h2 : μ 2 1 ≤ 1600) (hb : ∀ i, 0 ≤ i → i < 1600 → 0 ≤ μ 3 i ∧ μ 3 i ≤ 255) : ∀ d, 2 ≤ d → mCallN d 144 [mP 2, mI k] (SH, μ, RHO b) = some (tw2 (μ 3) k, SH, μ, RHO b) := deep fun d hd => by
  refine call_X1_two d b μ k ⟨1, ?_⟩
  have a1 := hb k h0 (by omega)
  have a2 := hb (k + 1) (by omega) (by omega)
  rw [tX1_two_0, sX6_byteAt k b μ h0 (by omega) h2 d hd, mOptR_some, w32_id (by omega) (by omega)]
  dsimp only
  rw [sX6_byteAt (k + 1) b μ (by omega) h1 h2 d hd, mOptR_some]
  dsimp only
  rw [or_two a1.1 a1.2 a2.1 a2.2]; rfl
theorem sX1_read (b : Bool) (μ : Nat → Int → Int) {G M P : Nat} (hG : μ (tw b + 1) 2 = G) (hM : μ (tw b + 1) 1 = M) (hP : μ (tw b + 1) 3 = P) (hG1 : G ≤ 12) (hM1 : M ≤ 12) (hP1 : P ≤ 6) (hl : μ 2 1 = 3 + G + 3 * M + 6 * P + 1) (hb : ∀ i, 0 ≤ i → i < 1600 → 0 ≤ μ 3 i ∧ μ 3 i ≤ 255) : ∀ d, 3 ≤ d → Cal d 141 [mP (tw b), mP 2, mP 75] b μ (fun _ μ' => Fr [75] μ μ' ∧ ∀ x, 0 ≤ x → x < 62 → μ' 75 x = rowQ (μ 3) G M G M P x) := deepC fun d hd => by
  have hs : shp 75 = (0, 62) := rfl
  have kn : ∀ {μ' : Nat → Int → Int}, Fr [75] μ μ' → μ' 2 = μ 2 ∧ μ' 3 = μ 3 ∧ μ' (tw b + 1) = μ (tw b + 1) := fun h => ⟨h 2 (by decide), h 3 (by decide), h _ (by have := tw_or b; simp only [List.mem_cons, List.not_mem_nil, or_false]; omega)⟩
  have bA : ∀ (μ' : Nat → Int → Int) (k : Int), Fr [75] μ μ' → 0 ≤ k → k < μ 2 1 → mCallN d 191 [mP 2, mI k] (SH, μ', RHO b) = some (μ 3 k, SH, μ', RHO b) := fun μ' k h k0 k1 => by
    have := sX6_byteAt k b μ' k0 (by rw [(kn h).1]; exact k1) (by rw [(kn h).1]; omega) d (by omega)
    rw [(kn h).2.1] at this; exact this
  have bT : ∀ (μ' : Nat → Int → Int) (k : Int), Fr [75] μ μ' → 0 ≤ k → k + 1 < μ 2 1 → mCallN d 144 [mP 2, mI k] (SH, μ', RHO b) = some (tw2 (μ 3) k, SH, μ', RHO b) := fun μ' k h k0 k1 => by
    have := sX1_two k b μ' k0 (by rw [(kn h).1]; exact k1) (by rw [(kn h).1]; omega) (by rw [(kn h).2.1]; exact hb) d (by omega)
    rw [(kn h).2.1] at this; exact this
  have hF : mCallN d 1 [mP 75, mI 0] (SH, μ, RHO b) = some (0, SH, mFl μ 75 62 0, RHO b) := sJ7_fill 75 62 0 b μ rfl (by decide) d (by omega)
  have f0 : Fr [75] μ (mFl μ 75 62 0) := fun a ha => mFl_ne (by simpa using ha)
  refine cal_ev (fun r => call_X1_read d b μ 75 b) (ev_row (fun m => tX1_read_0 _ m b μ 75 b) (ev_call hF (ev_call (bT _ 0 f0 (by decide) (by omega)) (ev_bif (arr_of hs) (ev_if (by rw [shape_of hs]; decide) ?_)))))
  have f1 : Fr [75] μ (m2 (mFl μ 75 62 0) 75 0 (tw2 (μ 3) 0)) := fr_m2 f0 (by decide)
  refine ev_call (bA _ 2 f1 (by decide) (by omega)) (ev_bif (arr_of hs) (ev_if (by rw [shape_of hs]; decide) ?_))
  have f2 : Fr [75] μ (m2 (m2 (mFl μ 75 62 0) 75 0 (tw2 (μ 3) 0)) 75 1 (μ 3 2)) := fr_m2 f1 (by decide)
  have hx2 : ∀ x, 0 ≤ x → x < 62 → m2 (m2 (mFl μ 75 62 0) 75 0 (tw2 (μ 3) 0)) 75 1 (μ 3 2) 75 x = rowQ (μ 3) G M 0 0 0 x := fun x x0 x1 => by
    rw [m2_at, m2_at, mFl_at, if_pos (show 0 ≤ x ∧ x < 62 from ⟨x0, x1⟩)]
    unfold rowQ
    by_cases e1 : x = 0
    · rw [if_neg (by omega), if_pos e1, if_pos e1]
    · rw [if_neg e1, if_neg e1]
      by_cases e2 : x = 1
      · rw [if_pos e2, if_pos e2]
      · rw [if_neg e2, if_neg e2, if_neg (by omega), if_neg (by omega), if_neg (by omega), if_neg (by omega), if_neg (by omega), if_neg (by omega), if_neg (by omega)]
  have lpP : ∀ (k : Nat) (i : Int) (μ' : Nat → Int → Int), 0 ≤ i → i + k = P → Fr [75] μ μ' → (∀ x, 0 ≤ x → x < 62 → μ' 75 x = rowQ (μ 3) G M G M i x) → Ev (fun m => mRun (mCallN d) kX1_read m 118 [some (mP (tw b)), some (mP 2), some (mP 75), some (mI (3 + G + 3 * M + 6 * i)), some (mI i)] [] (SH, μ', RHO b)) b (fun _ μ' => Fr [75] μ μ' ∧ ∀ x, 0 ≤ x → x < 62 → μ' 75 x = rowQ (μ 3) G M G M P x) := by
    intro k
    induction k with
    | zero =>
      intro i μ' h0 hk hf hx
      exact ev_row (fun m => tX1_read_118 _ m b μ' _ i 75 b) (ev_neg (by rw [(kn hf).2.2]; omega) (ev_ret ⟨hf, by rw [show (P : Int) = i by omega]; exact hx⟩))
    | succ k ih =>
      intro i μ' h0 hk hf hx
      have e1 : w32 (38 + i) = 38 + i := w32_id (by omega) (by omega)
      have e2 : w32 (44 + i) = 44 + i := w32_id (by omega) (by omega)
      have e3 : w32 (50 + i) = 50 + i := w32_id (by omega) (by omega)
      have e4 : w32 (56 + i) = 56 + i := w32_id (by omega) (by omega)
      have e5 : w32 (i + 1) = i + 1 := w32_id (by omega) (by omega)
      have d1 : w32 (3 + (G : Int) + 3 * M + 6 * i + 1) = 3 + G + 3 * M + 6 * i + 1 := w32_id (by omega) (by omega)
      have d2 : w32 (3 + (G : Int) + 3 * M + 6 * i + 2) = 3 + G + 3 * M + 6 * i + 2 := w32_id (by omega) (by omega)
      have d4 : w32 (3 + (G : Int) + 3 * M + 6 * i + 4) = 3 + G + 3 * M + 6 * i + 4 := w32_id (by omega) (by omega)
      have d6 : w32 (3 + (G : Int) + 3 * M + 6 * i + 6) = 3 + G + 3 * M + 6 * (i + 1) := by rw [w32_id (by omega) (by omega)]; omega
      refine ev_row (fun m => tX1_read_118 _ m b μ' _ i 75 b) (ev_pos (by rw [(kn hf).2.2]; omega) ?_)
      rw [e1, e2, e3, e4, e5, d1, d2, d4, d6]
      refine ev_call (bA μ' _ hf (by omega) (by omega)) (ev_bif (arr_of hs) (ev_if (by rw [shape_of hs]; show 0 ≤ 38 + i ∧ 38 + i < ((62 : Nat) : Int); omega) ?_))
      have g1 : Fr [75] μ (m2 μ' 75 (38 + i) (μ 3 (3 + G + 3 * M + 6 * i))) := fr_m2 hf (by decide)
      refine ev_call (bA _ _ g1 (by omega) (by omega)) (ev_bif (arr_of hs) (ev_if (by rw [shape_of hs]; show 0 ≤ 44 + i ∧ 44 + i < ((62 : Nat) : Int); omega) ?_))
      have g2 : Fr [75] μ (m2 (m2 μ' 75 (38 + i) (μ 3 (3 + G + 3 * M + 6 * i))) 75 (44 + i) (μ 3 (3 + G + 3 * M + 6 * i + 1))) := fr_m2 g1 (by decide)
      refine ev_call (bT _ _ g2 (by omega) (by omega)) (ev_bif (arr_of hs) (ev_if (by rw [shape_of hs]; show 0 ≤ 50 + i ∧ 50 + i < ((62 : Nat) : Int); omega) ?_))
      have g3 : Fr [75] μ (m2 (m2 (m2 μ' 75 (38 + i) (μ 3 (3 + G + 3 * M + 6 * i))) 75 (44 + i) (μ 3 (3 + G + 3 * M + 6 * i + 1))) 75 (50 + i) (tw2 (μ 3) (3 + G + 3 * M + 6 * i + 2))) := fr_m2 g2 (by decide)
      refine ev_call (bT _ _ g3 (by omega) (by omega)) (ev_bif (arr_of hs) (ev_if (by rw [shape_of hs]; show 0 ≤ 56 + i ∧ 56 + i < ((62 : Nat) : Int); omega) ?_))
      refine ih (i + 1) _ (by omega) (by omega) (fr_m2 g3 (by decide)) (fun x x0 x1 => ?_)
      show m2 (m2 (m2 (m2 μ' 75 (38 + i) (μ 3 (3 + G + 3 * M + 6 * i))) 75 (44 + i) (μ 3 (3 + G + 3 * M + 6 * i + 1))) 75 (50 + i) (tw2 (μ 3) (3 + G + 3 * M + 6 * i + 2))) 75 (56 + i) (tw2 (μ 3) (3 + G + 3 * M + 6 * i + 4)) 75 x = _
      rw [m2_at, m2_at, m2_at, m2_at, hx x x0 x1]
      exact rowQ_p (by omega) (by omega) h0 (by omega) x
  have lpM : ∀ (k : Nat) (i : Int) (μ' : Nat → Int → Int), 0 ≤ i → i + k = M → Fr [75] μ μ' → (∀ x, 0 ≤ x → x < 62 → μ' 75 x = rowQ (μ 3) G M G i 0 x) → Ev (fun m => mRun (mCallN d) kX1_read m 69 [some (mP (tw b)), some (mP 2), some (mP 75), some (mI (3 + G + 3 * i)), some (mI i)] [] (SH, μ', RHO b)) b (fun _ μ' => Fr [75] μ μ' ∧ ∀ x, 0 ≤ x → x < 62 → μ' 75 x = rowQ (μ 3) G M G M P x) := by
    intro k
    induction k with
    | zero =>
      intro i μ' h0 hk hf hx
      refine ev_row (fun m => tX1_read_69 _ m b μ' _ i 75 b) (ev_neg (by rw [(kn hf).2.2]; omega) ?_)
      have e : i = (M : Int) := by omega
      rw [e] at hx
      have := lpP P 0 μ' (by decide) (by omega) hf hx
      rw [show (3 + (G : Int) + 3 * M + 6 * 0) = 3 + G + 3 * i by omega] at this
      exact this
    | succ k ih =>
      intro i μ' h0 hk hf hx
      have e1 : w32 (14 + i) = 14 + i := w32_id (by omega) (by omega)
      have e2 : w32 (26 + i) = 26 + i := w32_id (by omega) (by omega)
      have e5 : w32 (i + 1) = i + 1 := w32_id (by omega) (by omega)
      have d1 : w32 (3 + (G : Int) + 3 * i + 1) = 3 + G + 3 * i + 1 := w32_id (by omega) (by omega)
      have d3 : w32 (3 + (G : Int) + 3 * i + 3) = 3 + G + 3 * (i + 1) := by rw [w32_id (by omega) (by omega)]; omega
      refine ev_row (fun m => tX1_read_69 _ m b μ' _ i 75 b) (ev_pos (by rw [(kn hf).2.2]; omega) ?_)
      rw [e1, e2, e5, d1, d3]
      refine ev_call (bA μ' _ hf (by omega) (by omega)) (ev_bif (arr_of hs) (ev_if (by rw [shape_of hs]; show 0 ≤ 14 + i ∧ 14 + i < ((62 : Nat) : Int); omega) ?_))
      have g1 : Fr [75] μ (m2 μ' 75 (14 + i) (μ 3 (3 + G + 3 * i))) := fr_m2 hf (by decide)
      refine ev_call (bT _ _ g1 (by omega) (by omega)) (ev_bif (arr_of hs) (ev_if (by rw [shape_of hs]; show 0 ≤ 26 + i ∧ 26 + i < ((62 : Nat) : Int); omega) ?_))
      refine ih (i + 1) _ (by omega) (by omega) (fr_m2 g1 (by decide)) (fun x x0 x1 => ?_)
      show m2 (m2 μ' 75 (14 + i) (μ 3 (3 + G + 3 * i))) 75 (26 + i) (tw2 (μ 3) (3 + G + 3 * i + 1)) 75 x = _
      rw [m2_at, m2_at, hx x x0 x1]
      exact rowQ_m (by omega) h0 (by omega) x
  have lpG : ∀ (k : Nat) (i : Int) (μ' : Nat → Int → Int), 0 ≤ i → i + k = G → Fr [75] μ μ' → (∀ x, 0 ≤ x → x < 62 → μ' 75 x = rowQ (μ 3) G M i 0 0 x) → Ev (fun m => mRun (mCallN d) kX1_read m 26 [some (mP (tw b)), some (mP 2), some (mP 75), some (mI 3), some (mI i)] [] (SH, μ', RHO b)) b (fun _ μ' => Fr [75] μ μ' ∧ ∀ x, 0 ≤ x → x < 62 → μ' 75 x = rowQ (μ 3) G M G M P x) := by
    intro k
    induction k with
    | zero =>
      intro i μ' h0 hk hf hx
      refine ev_row (fun m => tX1_read_26 _ m b μ' _ i 75 b) (ev_neg (by rw [(kn hf).2.2]; omega) ?_)
      have e : i = (G : Int) := by omega
      rw [e] at hx
      have := lpM M 0 μ' (by decide) (by omega) hf hx
      rw [(kn hf).2.2, hG, w32_id (by omega) (by omega)]
      rw [show (3 + (G : Int) + 3 * 0) = 3 + G by omega] at this
      exact this
    | succ k ih =>
      intro i μ' h0 hk hf hx
      have e1 : w32 (2 + i) = 2 + i := w32_id (by omega) (by omega)
      have e5 : w32 (i + 1) = i + 1 := w32_id (by omega) (by omega)
      have d1 : w32 (3 + i) = 3 + i := w32_id (by omega) (by omega)
      refine ev_row (fun m => tX1_read_26 _ m b μ' _ i 75 b) (ev_pos (by rw [(kn hf).2.2]; omega) ?_)
      rw [e1, e5, d1]
      refine ev_call (bA μ' _ hf (by omega) (by omega)) (ev_bif (arr_of hs) (ev_if (by rw [shape_of hs]; show 0 ≤ 2 + i ∧ 2 + i < ((62 : Nat) : Int); omega) ?_))
      refine ih (i + 1) _ (by omega) (by omega) (fr_m2 hf (by decide)) (fun x x0 x1 => ?_)
      show m2 μ' 75 (2 + i) (μ 3 (3 + i)) 75 x = _
      rw [m2_at, hx x x0 x1]
      exact rowQ_g h0 (by omega) x
  exact lpG G 0 _ (by decide) (by omega) f2 hx2
