/-! ===== joins: the class's, the reference's ===== -/
theorem ev_bif {c : Bool} {A B : Nat → mRes} {b : Bool} {Q : Int → (Nat → Int → Int) → Prop} (e : c = true) (h1 : Ev A b Q) : Ev (fun n => bif c then A n else B n) b Q := by
  subst e; exact h1
theorem sJ9_minL (x y : Int) (b : Bool) (μ : Nat → Int → Int) : ∀ d, 1 ≤ d → mCallN d 6 [mJ x, mJ y] (SH, μ, RHO b) = some (if y < x then y else x, SH, μ, RHO b) := deep fun d _ => by
  refine call_J9_min_f86c9 d b μ x y ⟨2, ?_⟩
  by_cases h : y < x
  · rw [tJ9_min_f86c9_0, mBr_pos (by rw [if_neg (by omega), if_neg (by omega)]; decide), tJ9_min_f86c9_11, if_pos h]
  · rw [tJ9_min_f86c9_0, mBr_neg (by (repeat' split) <;> omega), tJ9_min_f86c9_11, if_neg h]
theorem sJ9_maxL (x y : Int) (b : Bool) (μ : Nat → Int → Int) : ∀ d, 1 ≤ d → mCallN d 4 [mJ x, mJ y] (SH, μ, RHO b) = some (if x < y then y else x, SH, μ, RHO b) := deep fun d _ => by
  refine call_J9_max_f86c9 d b μ x y ⟨2, ?_⟩
  by_cases h : x < y
  · rw [tJ9_max_f86c9_0, mBr_pos (by rw [if_pos h]; decide), tJ9_max_f86c9_11, if_pos h]
  · rw [tJ9_max_f86c9_0, mBr_neg (by rw [if_neg h]; split <;> decide), tJ9_max_f86c9_11, if_neg h]
theorem iXor_sign {a b : Int} (h1 : -2147483648 ≤ a) (h2 : a < 2147483648) (h3 : -2147483648 ≤ b) (h4 : b < 2147483648) : iXor a b < 0 ↔ ¬ (a < 0 ↔ b < 0) := by
  have key : ∀ x : Int32, x.toInt < 0 ↔ x.toBitVec.msb = true := fun x => by
    show x.toBitVec.toInt < 0 ↔ _
    rw [BitVec.toInt_neg_iff, BitVec.msb_eq_true_iff_two_mul_ge]
  have ha := key (Int32.ofInt a)
  have hb := key (Int32.ofInt b)
  rw [i32_of h1 h2] at ha
  rw [i32_of h3 h4] at hb
  unfold iXor
  rw [key, Int32.toBitVec_xor, BitVec.msb_xor, ha, hb]
  cases (Int32.ofInt a).toBitVec.msb <;> cases (Int32.ofInt b).toBitVec.msb <;> simp
theorem sJ9_floorDiv (x y : Int) (b : Bool) (μ : Nat → Int → Int) (h1 : -1000000 ≤ x) (h2 : x ≤ 1000000) (h3 : -1000000 ≤ y) (h4 : y ≤ 1000000) (h5 : y ≠ 0) : ∀ d, 1 ≤ d → mCallN d 2 [mI x, mI y] (SH, μ, RHO b) = some (flo x y, SH, μ, RHO b) := deep fun d _ => by
  refine call_J9_floorDiv_7cf53 d b μ x y ⟨2, ?_⟩
  have e1 : iDiv x y = x.tdiv y := iDiv_t (by omega) (by omega) (by omega) (by omega)
  have hin := tdiv_in x y
  have h6 := Int.mul_tdiv_add_tmod x y
  have h7 := tmod_in x y
  have e2 : w32 (x.tdiv y * y) = x.tdiv y * y := by rw [Int.mul_comm]; exact w32_id (by omega) (by omega)
  have e3 : w32 (x.tdiv y - 1) = x.tdiv y - 1 := w32_id (by omega) (by omega)
  have hx := iXor_sign (a := x) (b := y) (by omega) (by omega) (by omega) (by omega)
  unfold flo
  rw [tJ9_floorDiv_7cf53_0, if_neg h5, e1, e2, e3, if_neg h5]
  rw [Int.mul_comm] at h6
  by_cases a1 : iXor x y < 0
  · rw [mBr_pos a1]
    by_cases a2 : x.tdiv y * y = x
    · rw [mBr_pos a2, tJ9_floorDiv_7cf53_21, if_neg (by intro h; exact h.1 (by omega))]
    · rw [mBr_neg a2, if_pos ⟨by omega, hx.1 a1⟩]
  · rw [mBr_neg a1, tJ9_floorDiv_7cf53_21, if_neg (fun h => a1 (hx.2 h.2))]
theorem iAnd01 : ∀ a b : Int, (a = 0 ∨ a = 1) → (b = 0 ∨ b = 1) → iAnd a b = a * b ∧ iOr a b = t01 (0 < a + b) := by
  intro a b h1 h2
  rcases h1 with h | h <;> rcases h2 with h' | h' <;> rw [h, h'] <;> decide +kernel
theorem mul_in {a b : Int} (h1 : -1000000 ≤ a) (h2 : a ≤ 1000000) (h3 : -1000000 ≤ b) (h4 : b ≤ 1000000) : -1000000000000 ≤ a * b ∧ a * b ≤ 1000000000000 := by
  have h5 : (a * b).natAbs ≤ 1000000 * 1000000 := by
    rw [Int.natAbs_mul]
    exact Nat.mul_le_mul (by omega) (by omega)
  omega
theorem clip_eq (v : Int) : (if (-1000000 : Int) < (if v < 1000000 then v else 1000000) then (if v < 1000000 then v else 1000000) else -1000000) = clipI v := by
  unfold clipI
  by_cases e : v < 1000000
  · rw [if_pos e]; (repeat' split) <;> omega
  · rw [if_neg e]; (repeat' split) <;> omega
theorem join_key (q a c v : Int) (b : Bool) (μ : Nat → Int → Int) (d : Nat) (hd : 1 ≤ d) : mRun (mCallN d) kX2_join 1 158 [some (mI q), some (mI a), some (mI c), none, none] [mJ v] (SH, μ, RHO b) = some (clipI v, SH, μ, RHO b) := by
  have h3 := clipI_in v
  have h4 := l2i_id (a := clipI v) (by omega) (by omega)
  rw [tX2_join_158, sJ9_minL _ _ _ _ d hd, mOptR_some, sJ9_maxL _ _ _ _ d hd, mOptR_some]
  show some (l2i (if (-1000000 : Int) < (if v < 1000000 then v else 1000000) then (if v < 1000000 then v else 1000000) else -1000000), SH, μ, RHO b) = _
  rw [clip_eq v, h4]
theorem join_15 (a c : Int) (b : Bool) (μ : Nat → Int → Int) (ha : a = 0 ∨ a = 1) (hc : c = 0 ∨ c = 1) (d : Nat) (hd : 1 ≤ d) : mRun (mCallN d) kX2_join 2 0 [some (mI (-12)), some (mI a), some (mI c), none, none] [] (SH, μ, RHO b) = some (a * c, SH, μ, RHO b) := by
  have q := iAnd01 a c ha hc
  obtain ⟨q1, q2⟩ := q
  rw [tX2_join_0, if_neg (by decide), if_neg (by decide), if_neg (by decide), if_neg (by decide), if_neg (by decide), if_neg (by decide), if_neg (by decide), if_neg (by decide), if_neg (by decide), if_pos rfl, q1]
theorem join_16 (a c : Int) (b : Bool) (μ : Nat → Int → Int) (ha : a = 0 ∨ a = 1) (hc : c = 0 ∨ c = 1) (d : Nat) (hd : 1 ≤ d) : mRun (mCallN d) kX2_join 2 0 [some (mI (-11)), some (mI a), some (mI c), none, none] [] (SH, μ, RHO b) = some (t01 (0 < a + c), SH, μ, RHO b) := by
  have q := iAnd01 a c ha hc
  obtain ⟨q1, q2⟩ := q
  rw [tX2_join_0, if_neg (by decide), if_neg (by decide), if_neg (by decide), if_neg (by decide), if_neg (by decide), if_neg (by decide), if_neg (by decide), if_neg (by decide), if_neg (by decide), if_neg (by decide), if_pos rfl, q2]
theorem join_1 (a c : Int) (b : Bool) (μ : Nat → Int → Int) (ha' : -1000000 ≤ a ∧ a ≤ 1000000) (hc' : -1000000 ≤ c ∧ c ≤ 1000000) (d : Nat) (hd : 1 ≤ d) : mRun (mCallN d) kX2_join 2 0 [some (mI (-16)), some (mI a), some (mI c), none, none] [] (SH, μ, RHO b) = some (clipI (a + c), SH, μ, RHO b) := by
  rw [tX2_join_0, if_neg (by decide), if_neg (by decide), if_neg (by decide), if_neg (by decide), if_neg (by decide), if_pos rfl, mBr_pos rfl, w32_id (by omega) (by omega)]
  exact join_key _ a c (a + c) b μ d (by omega)
theorem join_2 (a c : Int) (b : Bool) (μ : Nat → Int → Int) (ha' : -1000000 ≤ a ∧ a ≤ 1000000) (hc' : -1000000 ≤ c ∧ c ≤ 1000000) (d : Nat) (hd : 1 ≤ d) : mRun (mCallN d) kX2_join 2 0 [some (mI (-17)), some (mI a), some (mI c), none, none] [] (SH, μ, RHO b) = some (clipI (a - c), SH, μ, RHO b) := by
  rw [tX2_join_0, if_neg (by decide), if_neg (by decide), if_neg (by decide), if_neg (by decide), if_pos rfl, mBr_neg (by decide), mBr_pos rfl, w32_id (x := a - c) (by omega) (by omega)]
  exact join_key _ a c (a - c) b μ d (by omega)
theorem join_3 (a c : Int) (b : Bool) (μ : Nat → Int → Int) (ha' : -1000000 ≤ a ∧ a ≤ 1000000) (hc' : -1000000 ≤ c ∧ c ≤ 1000000) (d : Nat) (hd : 1 ≤ d) : mRun (mCallN d) kX2_join 2 0 [some (mI (-18)), some (mI a), some (mI c), none, none] [] (SH, μ, RHO b) = some (clipI (a * c), SH, μ, RHO b) := by
  have hm := mul_in ha'.1 ha'.2 hc'.1 hc'.2
  rw [tX2_join_0, if_neg (by decide), if_neg (by decide), if_neg (by decide), if_pos rfl, mBr_neg (by decide), mBr_neg (by decide), w64_id (by omega) (by omega)]
  exact join_key _ a c (a * c) b μ d (by omega)
theorem join_4 (a c : Int) (b : Bool) (μ : Nat → Int → Int) (ha' : -1000000 ≤ a ∧ a ≤ 1000000) (hc' : -1000000 ≤ c ∧ c ≤ 1000000) (d : Nat) (hd : 1 ≤ d) : mRun (mCallN d) kX2_join 2 0 [some (mI (-19)), some (mI a), some (mI c), none, none] [] (SH, μ, RHO b) = some (flo a c, SH, μ, RHO b) := by
  rw [tX2_join_0, if_neg (by decide), if_neg (by decide), if_pos rfl]
  by_cases e0 : c = 0
  · rw [mBr_pos e0, tX2_join_114]; unfold flo; rw [if_pos e0]
  · rw [mBr_neg e0, sJ9_floorDiv a c b μ (by omega) (by omega) (by omega) (by omega) e0 d (by omega), mOptR_some, tX2_join_114]
theorem join_5 (a c : Int) (b : Bool) (μ : Nat → Int → Int) (ha' : -1000000 ≤ a ∧ a ≤ 1000000) (hc' : -1000000 ≤ c ∧ c ≤ 1000000) (d : Nat) (hd : 1 ≤ d) : mRun (mCallN d) kX2_join 2 0 [some (mI (-20)), some (mI a), some (mI c), none, none] [] (SH, μ, RHO b) = some (if c < a then c else a, SH, μ, RHO b) := by
  rw [tX2_join_0, if_neg (by decide), if_pos rfl, sJ9_min _ _ _ _ d (by omega), mOptR_some]
theorem join_6 (a c : Int) (b : Bool) (μ : Nat → Int → Int) (ha' : -1000000 ≤ a ∧ a ≤ 1000000) (hc' : -1000000 ≤ c ∧ c ≤ 1000000) (d : Nat) (hd : 1 ≤ d) : mRun (mCallN d) kX2_join 2 0 [some (mI (-21)), some (mI a), some (mI c), none, none] [] (SH, μ, RHO b) = some (if a < c then c else a, SH, μ, RHO b) := by
  rw [tX2_join_0, if_pos rfl, sJ9_max _ _ _ _ d (by omega), mOptR_some]
theorem join_12 (a c : Int) (b : Bool) (μ : Nat → Int → Int) (ha' : -1000000 ≤ a ∧ a ≤ 1000000) (hc' : -1000000 ≤ c ∧ c ≤ 1000000) (d : Nat) (hd : 1 ≤ d) : mRun (mCallN d) kX2_join 2 0 [some (mI (-13)), some (mI a), some (mI c), none, none] [] (SH, μ, RHO b) = some (t01 (a < c), SH, μ, RHO b) := by
  rw [tX2_join_0, if_neg (by decide), if_neg (by decide), if_neg (by decide), if_neg (by decide), if_neg (by decide), if_neg (by decide), if_neg (by decide), if_neg (by decide), if_pos rfl]
  by_cases e0 : a < c
  · rw [mBr_pos e0, tX2_join_78, t01_pos e0]
  · rw [mBr_neg e0, tX2_join_78, t01_neg e0]
theorem join_13 (a c : Int) (b : Bool) (μ : Nat → Int → Int) (ha' : -1000000 ≤ a ∧ a ≤ 1000000) (hc' : -1000000 ≤ c ∧ c ≤ 1000000) (d : Nat) (hd : 1 ≤ d) : mRun (mCallN d) kX2_join 2 0 [some (mI (-14)), some (mI a), some (mI c), none, none] [] (SH, μ, RHO b) = some (t01 (c < a), SH, μ, RHO b) := by
  rw [tX2_join_0, if_neg (by decide), if_neg (by decide), if_neg (by decide), if_neg (by decide), if_neg (by decide), if_neg (by decide), if_neg (by decide), if_pos rfl]
  by_cases e0 : c < a
  · rw [mBr_pos e0, tX2_join_89, t01_pos e0]
  · rw [mBr_neg e0, tX2_join_89, t01_neg e0]
theorem join_14 (a c : Int) (b : Bool) (μ : Nat → Int → Int) (ha' : -1000000 ≤ a ∧ a ≤ 1000000) (hc' : -1000000 ≤ c ∧ c ≤ 1000000) (d : Nat) (hd : 1 ≤ d) : mRun (mCallN d) kX2_join 2 0 [some (mI (-15)), some (mI a), some (mI c), none, none] [] (SH, μ, RHO b) = some (t01 (a = c), SH, μ, RHO b) := by
  rw [tX2_join_0, if_neg (by decide), if_neg (by decide), if_neg (by decide), if_neg (by decide), if_neg (by decide), if_neg (by decide), if_pos rfl]
  by_cases e0 : a = c
  · rw [mBr_pos e0, tX2_join_100, t01_pos e0]
  · rw [mBr_neg e0, tX2_join_100, t01_neg e0]
theorem opf_1 (a c : Int) : opf 1 a c = clipI (a + c) := by unfold opf; rw [if_pos rfl]
theorem opf_2 (a c : Int) : opf 2 a c = clipI (a - c) := by unfold opf; rw [if_neg (by decide), if_pos rfl]
theorem opf_3 (a c : Int) : opf 3 a c = clipI (a * c) := by unfold opf; rw [if_neg (by decide), if_neg (by decide), if_pos rfl]
theorem opf_4 (a c : Int) : opf 4 a c = flo a c := by unfold opf; rw [if_neg (by decide), if_neg (by decide), if_neg (by decide), if_pos rfl]
theorem opf_5 (a c : Int) : opf 5 a c = (if c < a then c else a) := by unfold opf; rw [if_neg (by decide), if_neg (by decide), if_neg (by decide), if_neg (by decide), if_pos rfl]
theorem opf_6 (a c : Int) : opf 6 a c = (if a < c then c else a) := by unfold opf; rw [if_neg (by decide), if_neg (by decide), if_neg (by decide), if_neg (by decide), if_neg (by decide), if_pos rfl]
theorem opf_12 (a c : Int) : opf 12 a c = t01 (a < c) := by unfold opf; rw [if_neg (by decide), if_neg (by decide), if_neg (by decide), if_neg (by decide), if_neg (by decide), if_neg (by decide), if_pos rfl]
theorem opf_13 (a c : Int) : opf 13 a c = t01 (c < a) := by unfold opf; rw [if_neg (by decide), if_neg (by decide), if_neg (by decide), if_neg (by decide), if_neg (by decide), if_neg (by decide), if_neg (by decide), if_pos rfl]
theorem opf_14 (a c : Int) : opf 14 a c = t01 (a = c) := by unfold opf; rw [if_neg (by decide), if_neg (by decide), if_neg (by decide), if_neg (by decide), if_neg (by decide), if_neg (by decide), if_neg (by decide), if_neg (by decide), if_pos rfl]
theorem opf_15 (a c : Int) : opf 15 a c = a * c := by unfold opf; rw [if_neg (by decide), if_neg (by decide), if_neg (by decide), if_neg (by decide), if_neg (by decide), if_neg (by decide), if_neg (by decide), if_neg (by decide), if_neg (by decide), if_pos rfl]
theorem opf_16 (a c : Int) : opf 16 a c = t01 (0 < a + c) := by unfold opf; rw [if_neg (by decide), if_neg (by decide), if_neg (by decide), if_neg (by decide), if_neg (by decide), if_neg (by decide), if_neg (by decide), if_neg (by decide), if_neg (by decide), if_neg (by decide)]
theorem sX2_join (y a c : Int) (b : Bool) (μ : Nat → Int → Int) (hy : ((y = 15 ∨ y = 16) ∧ vK true a ∧ vK true c) ∨ (((1 ≤ y ∧ y ≤ 6) ∨ (12 ≤ y ∧ y ≤ 14)) ∧ vK false a ∧ vK false c)) : ∀ d, 2 ≤ d → mCallN d 147 [mI (cOf y), mI a, mI c] (SH, μ, RHO b) = some (opf y a c, SH, μ, RHO b) := deep fun d hd => by
  refine call_X2_join d b μ (cOf y) a c ⟨2, ?_⟩
  rcases hy with ⟨h, ha, hc⟩ | ⟨h, ha, hc⟩
  · have ha' : a = 0 ∨ a = 1 := ha
    have hc' : c = 0 ∨ c = 1 := hc
    rcases h with e | e <;> subst e
    · rw [show cOf 15 = -12 from by decide, opf_15]; exact join_15 a c b μ ha' hc' d hd
    · rw [show cOf 16 = -11 from by decide, opf_16]; exact join_16 a c b μ ha' hc' d hd
  · have ha' : -1000000 ≤ a ∧ a ≤ 1000000 := ha
    have hc' : -1000000 ≤ c ∧ c ≤ 1000000 := hc
    have hy : y = 1 ∨ y = 2 ∨ y = 3 ∨ y = 4 ∨ y = 5 ∨ y = 6 ∨ y = 12 ∨ y = 13 ∨ y = 14 := by omega
    rcases hy with e | e | e | e | e | e | e | e | e <;> subst e
    · rw [show cOf 1 = -16 from by decide, opf_1]; exact join_1 a c b μ ha' hc' d hd
    · rw [show cOf 2 = -17 from by decide, opf_2]; exact join_2 a c b μ ha' hc' d hd
    · rw [show cOf 3 = -18 from by decide, opf_3]; exact join_3 a c b μ ha' hc' d hd
    · rw [show cOf 4 = -19 from by decide, opf_4]; exact join_4 a c b μ ha' hc' d hd
    · rw [show cOf 5 = -20 from by decide, opf_5]; exact join_5 a c b μ ha' hc' d hd
    · rw [show cOf 6 = -21 from by decide, opf_6]; exact join_6 a c b μ ha' hc' d hd
    · rw [show cOf 12 = -13 from by decide, opf_12]; exact join_12 a c b μ ha' hc' d hd
    · rw [show cOf 13 = -14 from by decide, opf_13]; exact join_13 a c b μ ha' hc' d hd
    · rw [show cOf 14 = -15 from by decide, opf_14]; exact join_14 a c b μ ha' hc' d hd
