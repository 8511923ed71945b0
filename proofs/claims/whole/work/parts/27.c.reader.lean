/-! ===== the class takes a sign, a word, a number, a name ===== -/
theorem Fj_CDd {T : Int → Int} {n : Int} {e : Int × Int} {μ μ' : Nat → Int → Int} (h : CDd T n μ e) (hf : μ' = μ) : CDd T n μ' e := by rw [hf]; exact h
theorem sX4_takeSign_ok {T : Int → Int} {n s : Int} {g : Bool} (hT : Tp T n) (c : Int) (b : Bool) (μ : Nat → Int → Int) (h : CLv T n μ s g) (hc : tkS T n s g = c) : ∀ d, 3 ≤ d → Cal d 182 [mP 1, mI c] b μ (fun _ μ' => Fj rdJ μ μ' ∧ CLv T n μ' (nxS T n s) (nxG T n s g)) := deepC fun d hd => by
  have t6 := h.2.2.2.2.1.2.2.1
  exact cal_ev (fun r => call_X4_takeSign d b μ c) (ev_row (fun m => tX4_takeSign_0 _ m b μ c) (ev_pos (by rw [t6]; exact hc) (ev_callP (sX4_take hT b μ h d hd) (fun _ μ1 h1 => ev_row (fun m => tX4_takeSign_24 _ m b μ1 c) (ev_ret h1)))))
theorem sX4_takeSign_er {T : Int → Int} {n s : Int} {g : Bool} (c : Int) (b : Bool) (μ : Nat → Int → Int) (h : CLv T n μ s g) (hc : tkS T n s g ≠ c) : ∀ d, 3 ≤ d → Cal d 182 [mP 1, mI c] b μ (fun _ μ' => Fj rdJ μ μ' ∧ CDd T n μ' (1, s)) := deepC fun d hd => by
  have t6 := h.2.2.2.2.1.2.2.1
  have t7 := h.2.2.2.2.1.2.2.2.1
  refine cal_ev (fun r => call_X4_takeSign d b μ c) (ev_row (fun m => tX4_takeSign_0 _ m b μ c) (ev_neg (by rw [t6]; exact hc) ?_))
  rw [t7]
  exact ev_callP (sX4_fail 1 s (by decide) b μ h d (by omega)) (fun _ μ1 h1 => ev_row (fun m => tX4_takeSign_24 _ m b μ1 c) (ev_ret h1))
theorem sX4_takeSign_dd {T : Int → Int} {n : Int} {e : Int × Int} (c : Int) (hc : c ≠ -1) (b : Bool) (μ : Nat → Int → Int) (h : CDd T n μ e) : ∀ d, 3 ≤ d → Cal d 182 [mP 1, mI c] b μ (fun _ μ' => Fj rdJ μ μ' ∧ CDd T n μ' e) := deepC fun d hd => by
  refine cal_ev (fun r => call_X4_takeSign d b μ c) (ev_row (fun m => tX4_takeSign_0 _ m b μ c) (ev_neg (by rw [h.2.2.2.2.2.2.2]; exact fun q => hc q.symm) ?_))
  exact ev_callP (sX4_fail_dead 1 _ b μ h d (by omega)) (fun _ μ1 h1 => ev_row (fun m => tX4_takeSign_24 _ m b μ1 c) (ev_ret h1))
theorem sX4_takeWord_ok {T : Int → Int} {n s : Int} {g : Bool} (hT : Tp T n) (c : Int) (b : Bool) (μ : Nat → Int → Int) (h : CLv T n μ s g) (hc : tkW T n s g = c) : ∀ d, 3 ≤ d → Cal d 183 [mP 1, mI c] b μ (fun _ μ' => Fj rdJ μ μ' ∧ CLv T n μ' (nxS T n s) (nxG T n s g)) := deepC fun d hd => by
  have t5 := h.2.2.2.2.1.2.1
  exact cal_ev (fun r => call_X4_takeWord d b μ c) (ev_row (fun m => tX4_takeWord_0 _ m b μ c) (ev_pos (by rw [t5]; exact hc) (ev_callP (sX4_take hT b μ h d hd) (fun _ μ1 h1 => ev_row (fun m => tX4_takeWord_24 _ m b μ1 c) (ev_ret h1)))))
theorem sX4_takeWord_er {T : Int → Int} {n s : Int} {g : Bool} (c : Int) (b : Bool) (μ : Nat → Int → Int) (h : CLv T n μ s g) (hc : tkW T n s g ≠ c) : ∀ d, 3 ≤ d → Cal d 183 [mP 1, mI c] b μ (fun _ μ' => Fj rdJ μ μ' ∧ CDd T n μ' (1, s)) := deepC fun d hd => by
  have t5 := h.2.2.2.2.1.2.1
  have t7 := h.2.2.2.2.1.2.2.2.1
  refine cal_ev (fun r => call_X4_takeWord d b μ c) (ev_row (fun m => tX4_takeWord_0 _ m b μ c) (ev_neg (by rw [t5]; exact hc) ?_))
  rw [t7]
  exact ev_callP (sX4_fail 1 s (by decide) b μ h d (by omega)) (fun _ μ1 h1 => ev_row (fun m => tX4_takeWord_24 _ m b μ1 c) (ev_ret h1))
theorem sX4_takeWord_dd {T : Int → Int} {n : Int} {e : Int × Int} (c : Int) (hc : c ≠ -1) (b : Bool) (μ : Nat → Int → Int) (h : CDd T n μ e) : ∀ d, 3 ≤ d → Cal d 183 [mP 1, mI c] b μ (fun _ μ' => Fj rdJ μ μ' ∧ CDd T n μ' e) := deepC fun d hd => by
  refine cal_ev (fun r => call_X4_takeWord d b μ c) (ev_row (fun m => tX4_takeWord_0 _ m b μ c) (ev_neg (by rw [h.2.2.2.2.2.2.1]; exact fun q => hc q.symm) ?_))
  exact ev_callP (sX4_fail_dead 1 _ b μ h d (by omega)) (fun _ μ1 h1 => ev_row (fun m => tX4_takeWord_24 _ m b μ1 c) (ev_ret h1))
theorem sX4_takeOpening_ok {T : Int → Int} {n s : Int} {g : Bool} (hT : Tp T n) (o : Int) (ho : o < 6) (b : Bool) (μ : Nat → Int → Int) (h : CLv T n μ s g) : ∀ d, 3 ≤ d → Cal d 181 [mP 1, mI o] b μ (fun v μ' => v = 1 ∧ Fj rdJ μ μ' ∧ CLv T n μ' (nxS T n s) (nxG T n s g)) := deepC fun d hd =>
  cal_ev (fun r => call_X4_takeOpening d b μ o) (ev_row (fun m => tX4_takeOpening_0 _ m b μ o) (ev_pos ho (ev_callP (sX4_take hT b μ h d hd) (fun _ μ1 h1 => ev_ret ⟨rfl, h1⟩))))
theorem sX4_takeOpening_er {T : Int → Int} {n s : Int} {g : Bool} (o : Int) (ho : ¬ o < 6) (b : Bool) (μ : Nat → Int → Int) (h : CLv T n μ s g) : ∀ d, 3 ≤ d → Cal d 181 [mP 1, mI o] b μ (fun v μ' => v = 0 ∧ Fj rdJ μ μ' ∧ CDd T n μ' (4, s)) := deepC fun d hd => by
  have t7 := h.2.2.2.2.1.2.2.2.1
  refine cal_ev (fun r => call_X4_takeOpening d b μ o) (ev_row (fun m => tX4_takeOpening_0 _ m b μ o) (ev_neg ho ?_))
  rw [t7]
  exact ev_callP (sX4_fail 4 s (by decide) b μ h d (by omega)) (fun _ μ1 h1 => ev_ret ⟨rfl, h1⟩)
/-- which comparison a sign is -/
def cmpO (c : Int) : Int := if c = 60 then -13 else if c = 62 then -14 else -15
theorem sX4_takeComparison_ok {T : Int → Int} {n s : Int} {g : Bool} (hT : Tp T n) (b : Bool) (μ : Nat → Int → Int) (h : CLv T n μ s g) (hc : tkS T n s g = 60 ∨ tkS T n s g = 62 ∨ tkS T n s g = 61) : ∀ d, 3 ≤ d → Cal d 176 [mP 1] b μ (fun v μ' => v = cmpO (tkS T n s g) ∧ Fj rdJ μ μ' ∧ CLv T n μ' (nxS T n s) (nxG T n s g)) := deepC fun d hd => by
  have t6 := h.2.2.2.2.1.2.2.1
  have go : ∀ v : Int, v = cmpO (tkS T n s g) → Ev (fun m => mRun (mCallN d) kX4_takeComparison m 30 [some (mP 1), none] [mI v] (SH, μ, RHO b)) b (fun v μ' => v = cmpO (tkS T n s g) ∧ Fj rdJ μ μ' ∧ CLv T n μ' (nxS T n s) (nxG T n s g)) := fun v hv => by
    have tk : Ev (fun m => mRun (mCallN d) kX4_takeComparison m 58 [some (mP 1), some (mI v)] [] (SH, μ, RHO b)) b (fun v μ' => v = cmpO (tkS T n s g) ∧ Fj rdJ μ μ' ∧ CLv T n μ' (nxS T n s) (nxG T n s g)) := ev_row (fun m => tX4_takeComparison_58 _ m b μ v) (ev_callP (sX4_take hT b μ h d hd) (fun _ μ1 h1 => ev_row (fun m => tX4_takeComparison_74 _ m b μ1 v) (ev_ret ⟨hv, h1⟩)))
    refine ev_row (fun m => tX4_takeComparison_30 _ m b μ v) ?_
    rw [t6]
    exact ev_br (fun _ => tk) (fun c1 => ev_br (fun _ => tk) (fun c2 => ev_pos (by omega) tk))
  refine cal_ev (fun r => call_X4_takeComparison d b μ) (ev_row (fun m => tX4_takeComparison_0 _ m b μ) ?_)
  rw [t6]
  refine ev_br (fun c1 => go _ (by unfold cmpO; rw [if_pos c1])) (fun c1 => ev_br (fun c2 => go _ (by unfold cmpO; rw [if_neg c1, if_pos c2])) (fun c2 => go _ (by unfold cmpO; rw [if_neg c1, if_neg c2])))
theorem sX4_takeComparison_er {T : Int → Int} {n s : Int} {g : Bool} (b : Bool) (μ : Nat → Int → Int) (h : CLv T n μ s g) (hc : ¬ (tkS T n s g = 60 ∨ tkS T n s g = 62 ∨ tkS T n s g = 61)) : ∀ d, 3 ≤ d → Cal d 176 [mP 1] b μ (fun _ μ' => Fj rdJ μ μ' ∧ CDd T n μ' (1, s)) := deepC fun d hd => by
  have t6 := h.2.2.2.2.1.2.2.1
  have t7 := h.2.2.2.2.1.2.2.2.1
  refine cal_ev (fun r => call_X4_takeComparison d b μ) (ev_row (fun m => tX4_takeComparison_0 _ m b μ) ?_)
  rw [t6]
  refine ev_neg (by omega) (ev_neg (by omega) (ev_row (fun m => tX4_takeComparison_30 _ m b μ _) ?_))
  rw [t6, t7]
  exact ev_neg (by omega) (ev_neg (by omega) (ev_neg (by omega) (ev_callP (sX4_fail 1 s (by decide) b μ h d (by omega)) (fun _ μ1 h1 => ev_row (fun m => tX4_takeComparison_74 _ m b μ1 _) (ev_ret h1)))))
theorem sX4_takeComparison_dd {T : Int → Int} {n : Int} {e : Int × Int} (b : Bool) (μ : Nat → Int → Int) (h : CDd T n μ e) : ∀ d, 3 ≤ d → Cal d 176 [mP 1] b μ (fun _ μ' => Fj rdJ μ μ' ∧ CDd T n μ' e) := deepC fun d hd => by
  have t6 := h.2.2.2.2.2.2.2
  refine cal_ev (fun r => call_X4_takeComparison d b μ) (ev_row (fun m => tX4_takeComparison_0 _ m b μ) ?_)
  rw [t6]
  refine ev_neg (by decide) (ev_neg (by decide) (ev_row (fun m => tX4_takeComparison_30 _ m b μ _) ?_))
  rw [t6]
  exact ev_neg (by decide) (ev_neg (by decide) (ev_neg (by decide) (ev_callP (sX4_fail_dead 1 _ b μ h d (by omega)) (fun _ μ1 h1 => ev_row (fun m => tX4_takeComparison_74 _ m b μ1 _) (ev_ret h1)))))
/-! numbers -/
def nmK (T : Int → Int) : Nat → Int → Int → Int
  | 0, _, v => v
  | k + 1, i, v => nmK T k (i + 1) (10 * v + T i - 48)
def nmN (T : Int → Int) (n s : Int) : Int := nmK T (bhd T n s - s).toNat s 0
theorem nmK_in {T : Int → Int} : ∀ (k : Nat) (i v P : Int), 0 ≤ v → v < P → (∀ j, i ≤ j → j < i + k → 48 ≤ T j ∧ T j ≤ 57) → 0 ≤ nmK T k i v ∧ nmK T k i v < P * ((10 ^ k : Nat) : Int)
  | 0, i, v, P, v0, v1, _ => by rw [nmK]; exact ⟨v0, by simpa using v1⟩
  | k + 1, i, v, P, v0, v1, hd => by
    have h0 := hd i (by omega) (by omega)
    have h := nmK_in (T := T) k (i + 1) (10 * v + T i - 48) (10 * P) (by omega) (by omega) (fun j j0 j1 => hd j (by omega) (by omega))
    rw [nmK]
    refine ⟨h.1, ?_⟩
    have e : 10 * P * ((10 ^ k : Nat) : Int) = P * ((10 ^ (k + 1) : Nat) : Int) := by
      rw [Nat.pow_succ, Int.natCast_mul]
      rw [Int.mul_comm 10 P, Int.mul_assoc, Int.mul_comm ((10 ^ k : Nat) : Int)]
      rfl
    rw [← e]; exact h.2
theorem dig_in {c : Int} (h : kdO c = 2) : 48 ≤ c ∧ c ≤ 57 := by
  rcases kdO_or c with ⟨q, -⟩ | ⟨q, -⟩ | ⟨q, q2⟩ | ⟨q, -⟩
  · omega
  · omega
  · exact q2
  · omega
theorem let_in {c : Int} (h : kdO c = 1) : 97 ≤ c ∧ c ≤ 122 := by
  rcases kdO_or c with ⟨q, -⟩ | ⟨q, q2⟩ | ⟨q, -⟩ | ⟨q, -⟩
  · omega
  · exact q2
  · omega
  · omega
theorem nmN_in {T : Int → Int} {n s : Int} (h0 : 0 ≤ s) (h1 : s < n) (hk : kdO (T s) = 2) (hl : bhd T n s - s ≤ 4) : 0 ≤ nmN T n s ∧ nmN T n s ≤ 9999 := by
  obtain ⟨u1, u2, u3, u4⟩ := bhd_run h0 h1 (Or.inr hk)
  have h := nmK_in (T := T) (bhd T n s - s).toNat s 0 1 (by decide) (by decide) (fun j j0 j1 => dig_in (by rw [u1 j j0 (by omega)]; exact hk))
  have hp : (10 : Nat) ^ (bhd T n s - s).toNat ≤ 10 ^ 4 := Nat.pow_le_pow_right (by decide) (by omega)
  unfold nmN
  rw [Int.one_mul] at h
  generalize (10 : Nat) ^ (bhd T n s - s).toNat = P at h hp
  omega
theorem sX4_takeNumber_ok {T : Int → Int} {n s : Int} {g : Bool} (hT : Tp T n) (lo hi : Int) (b : Bool) (μ : Nat → Int → Int) (h : CLv T n μ s g) (hk : tkK T n s g = 2) (hl : bhd T n s - s ≤ 4) (h1 : lo ≤ nmN T n s) (h2 : nmN T n s ≤ hi) : ∀ d, 3 ≤ d → Cal d 179 [mP 1, mI lo, mI hi] b μ (fun v μ' => v = nmN T n s ∧ Fj rdJ μ μ' ∧ CLv T n μ' (nxS T n s) (nxG T n s g)) := deepC fun d hd => by
  obtain ⟨hn0, hn1, hb⟩ := hT
  have hT : Tp T n := ⟨hn0, hn1, hb⟩
  obtain ⟨m2', m3, mf, mp, ⟨t4, t5, t6, t7, t8⟩, hv⟩ := h
  have h : CLv T n μ s g := ⟨m2', m3, mf, mp, ⟨t4, t5, t6, t7, t8⟩, hv⟩
  obtain ⟨hsn, hk2⟩ : s < n ∧ kdO (T s) = 2 := by
    rcases tkK_or (g := g) hT hv with ⟨c, -⟩ | ⟨c, ⟨c2, -⟩ | ⟨-, -, c2⟩ | ⟨c2, -⟩ | ⟨c2, -⟩⟩
    · omega
    · omega
    · exact ⟨c, c2⟩
    · omega
    · omega
  obtain ⟨u1, u2, u3, u4⟩ := bhd_run hv.1 hsn (Or.inr hk2)
  have hs0 := hv.1
  have lp : ∀ (k : Nat) (i v : Int), i + k = bhd T n s → s ≤ i → nmN T n s = nmK T k i v → 0 ≤ v → v ≤ 99999 → (∀ P : Int, P * ((10 ^ k : Nat) : Int) ≤ 10000 → True) → (k ≤ 4) → (v < ((10 ^ (4 - k) : Nat) : Int)) → Ev (fun m => mRun (mCallN d) kX4_takeNumber m 57 [some (mP 1), some (mI lo), some (mI hi), some (mI v), some (mI i)] [] (SH, μ, RHO b)) b (fun v μ' => v = nmN T n s ∧ Fj rdJ μ μ' ∧ CLv T n μ' (nxS T n s) (nxG T n s g)) := by
    intro k
    induction k with
    | zero =>
      intro i v hi' hsi he v0 v1 _ _ _
      rw [nmK] at he
      refine ev_row (fun m => tX4_takeNumber_57 _ m b μ _ _ _ _) ?_
      rw [t8]
      refine ev_neg (by omega) (ev_neg (by omega) (ev_neg (by omega) (ev_callP (sX4_take hT b μ h d hd) (fun _ μ1 hh => ev_ret ⟨he.symm, hh⟩))))
    | succ k ih =>
      intro i v hi' hsi he v0 v1 _ k4 vp
      have hdg := dig_in (c := T i) (by rw [u1 i hsi (by omega)]; exact hk2)
      have hbt := sX6_byteA i b μ (by omega) d (by omega)
      rw [m2', m3, byA_in (by omega) (by omega)] at hbt
      have hp3 : (10 : Nat) ^ (4 - (k + 1)) ≤ 10 ^ 3 := Nat.pow_le_pow_right (by decide) (by omega)
      have hp4 : (10 : Nat) ^ (4 - k) = 10 * 10 ^ (4 - (k + 1)) := by rw [show 4 - k = (4 - (k + 1)) + 1 by omega, Nat.pow_succ, Nat.mul_comm]
      generalize (10 : Nat) ^ (4 - (k + 1)) = Q at vp hp3 hp4
      refine ev_row (fun m => tX4_takeNumber_57 _ m b μ _ _ _ _) ?_
      rw [t8]
      refine ev_pos (by omega) (ev_call hbt ?_)
      dsimp only
      rw [show w32 (v * 10) = v * 10 from w32_id (by omega) (by omega), show w32 (v * 10 + T i) = v * 10 + T i from w32_id (by omega) (by omega), show w32 (v * 10 + T i - 48) = 10 * v + T i - 48 from by rw [w32_id (by omega) (by omega)]; omega, show w32 (i + 1) = i + 1 from w32_id (by omega) (by omega)]
      refine ih (i + 1) _ (by omega) (by omega) (by rw [he]; rfl) (by omega) (by omega) (fun _ _ => trivial) (by omega) ?_
      rw [hp4]
      omega
  refine cal_ev (fun r => call_X4_takeNumber d b μ lo hi) (ev_row (fun m => tX4_takeNumber_0 _ m b μ lo hi) ?_)
  rw [t4, t7, t8, w32_id (by omega) (by omega)]
  refine ev_pos hk (ev_neg (by omega) (lp (bhd T n s - s).toNat s 0 (by omega) (Int.le_refl _) rfl (by decide) (by decide) (fun _ _ => trivial) (by omega) ?_))
  have := Nat.pow_pos (a := 10) (n := 4 - (bhd T n s - s).toNat) (by decide)
  generalize (10 : Nat) ^ (4 - (bhd T n s - s).toNat) = Q at this
  omega
/-- where a number is asked and cannot be -/
def nmE (T : Int → Int) (n s : Int) (g : Bool) (lo hi : Int) (e : Int × Int) : Prop := (tkK T n s g ≠ 2 ∧ e = (1, s)) ∨ (tkK T n s g = 2 ∧ 4 < bhd T n s - s ∧ e = (1, s + 4)) ∨ (tkK T n s g = 2 ∧ bhd T n s - s ≤ 4 ∧ ¬ (lo ≤ nmN T n s ∧ nmN T n s ≤ hi) ∧ e = (2, s))
theorem sX4_takeNumber_er {T : Int → Int} {n s : Int} {g : Bool} {e : Int × Int} (hT : Tp T n) (lo hi : Int) (b : Bool) (μ : Nat → Int → Int) (h : CLv T n μ s g) (he : nmE T n s g lo hi e) : ∀ d, 3 ≤ d → Cal d 179 [mP 1, mI lo, mI hi] b μ (fun v μ' => v = lo ∧ Fj rdJ μ μ' ∧ CDd T n μ' e) := deepC fun d hd => by
  obtain ⟨hn0, hn1, hb⟩ := hT
  have hT : Tp T n := ⟨hn0, hn1, hb⟩
  obtain ⟨m2', m3, mf, mp, ⟨t4, t5, t6, t7, t8⟩, hv⟩ := h
  have h : CLv T n μ s g := ⟨m2', m3, mf, mp, ⟨t4, t5, t6, t7, t8⟩, hv⟩
  have hs0 := hv.1
  have hs1 := hv.2.1
  obtain ⟨q1, q2, q3, q4, q5⟩ := bhd_in hT hv.1 hv.2.1
  refine cal_ev (fun r => call_X4_takeNumber d b μ lo hi) (ev_row (fun m => tX4_takeNumber_0 _ m b μ lo hi) ?_)
  rw [t4, t7, t8, w32_id (by omega) (by omega)]
  rcases he with ⟨c1, c2⟩ | ⟨c1, c2, c3⟩ | ⟨c1, c2, c3, c4⟩
  · refine ev_neg c1 (ev_row (fun m => tX4_takeNumber_21 _ m b μ lo hi) ?_)
    rw [t4, t7]
    refine ev_neg c1 (ev_row (fun m => tX4_takeNumber_44 _ m b μ lo hi 1 s) ?_)
    rw [c2]
    exact ev_callP (sX4_fail 1 s (by decide) b μ h d (by omega)) (fun _ μ1 h1 => ev_ret ⟨rfl, h1⟩)
  · refine ev_pos c1 (ev_pos c2 (ev_row (fun m => tX4_takeNumber_21 _ m b μ lo hi) ?_))
    rw [t4, t7, w32_id (by omega) (by omega)]
    refine ev_pos c1 (ev_row (fun m => tX4_takeNumber_44 _ m b μ lo hi 1 (s + 4)) ?_)
    rw [c3]
    exact ev_callP (sX4_fail 1 (s + 4) (by decide) b μ h d (by omega)) (fun _ μ1 h1 => ev_ret ⟨rfl, h1⟩)
  · obtain ⟨hsn, hk2⟩ : s < n ∧ kdO (T s) = 2 := by
      rcases tkK_or (g := g) hT hv with ⟨c, -⟩ | ⟨c, ⟨c2, -⟩ | ⟨-, -, c2⟩ | ⟨c2, -⟩ | ⟨c2, -⟩⟩
      · omega
      · omega
      · exact ⟨c, c2⟩
      · omega
      · omega
    obtain ⟨u1, u2, u3, u4⟩ := bhd_run hv.1 hsn (Or.inr hk2)
    refine ev_pos c1 (ev_neg (by omega) ?_)
    have bad : ∀ v i : Int, Ev (fun m => mRun (mCallN d) kX4_takeNumber m 100 [some (mP 1), some (mI lo), some (mI hi), some (mI v), some (mI i)] [] (SH, μ, RHO b)) b (fun v μ' => v = lo ∧ Fj rdJ μ μ' ∧ CDd T n μ' e) := fun v i => by
      refine ev_row (fun m => tX4_takeNumber_100 _ m b μ _ _ _ _) ?_
      rw [t7, c4]
      exact ev_callP (sX4_fail 2 s (by decide) b μ h d (by omega)) (fun _ μ1 h1 => ev_ret ⟨rfl, h1⟩)
    have lp : ∀ (k : Nat) (i v : Int), i + k = bhd T n s → s ≤ i → nmN T n s = nmK T k i v → 0 ≤ v → (k ≤ 4) → (v < ((10 ^ (4 - k) : Nat) : Int)) → Ev (fun m => mRun (mCallN d) kX4_takeNumber m 57 [some (mP 1), some (mI lo), some (mI hi), some (mI v), some (mI i)] [] (SH, μ, RHO b)) b (fun v μ' => v = lo ∧ Fj rdJ μ μ' ∧ CDd T n μ' e) := by
      intro k
      induction k with
      | zero =>
        intro i v hi' hsi he v0 _ _
        rw [nmK] at he
        refine ev_row (fun m => tX4_takeNumber_57 _ m b μ _ _ _ _) ?_
        rw [t8]
        exact ev_neg (by omega) (ev_br (fun _ => bad v i) (fun w1 => ev_pos (by omega) (bad v i)))
      | succ k ih =>
        intro i v hi' hsi he v0 k4 vp
        have hdg := dig_in (c := T i) (by rw [u1 i hsi (by omega)]; exact hk2)
        have hbt := sX6_byteA i b μ (by omega) d (by omega)
        rw [m2', m3, byA_in (by omega) (by omega)] at hbt
        have hp3 : (10 : Nat) ^ (4 - (k + 1)) ≤ 10 ^ 3 := Nat.pow_le_pow_right (by decide) (by omega)
        have hp4 : (10 : Nat) ^ (4 - k) = 10 * 10 ^ (4 - (k + 1)) := by rw [show 4 - k = (4 - (k + 1)) + 1 by omega, Nat.pow_succ, Nat.mul_comm]
        generalize (10 : Nat) ^ (4 - (k + 1)) = Q at vp hp3 hp4
        refine ev_row (fun m => tX4_takeNumber_57 _ m b μ _ _ _ _) ?_
        rw [t8]
        refine ev_pos (by omega) (ev_call hbt ?_)
        dsimp only
        rw [show w32 (v * 10) = v * 10 from w32_id (by omega) (by omega), show w32 (v * 10 + T i) = v * 10 + T i from w32_id (by omega) (by omega), show w32 (v * 10 + T i - 48) = 10 * v + T i - 48 from by rw [w32_id (by omega) (by omega)]; omega, show w32 (i + 1) = i + 1 from w32_id (by omega) (by omega)]
        refine ih (i + 1) _ (by omega) (by omega) (by rw [he]; rfl) (by omega) (by omega) ?_
        rw [hp4]
        omega
    refine lp (bhd T n s - s).toNat s 0 (by omega) (Int.le_refl _) rfl (by decide) (by omega) ?_
    have := Nat.pow_pos (a := 10) (n := 4 - (bhd T n s - s).toNat) (by decide)
    generalize (10 : Nat) ^ (4 - (bhd T n s - s).toNat) = Q at this
    omega
theorem sX4_takeNumber_dd {T : Int → Int} {n : Int} {e : Int × Int} (lo hi : Int) (b : Bool) (μ : Nat → Int → Int) (h : CDd T n μ e) : ∀ d, 3 ≤ d → Cal d 179 [mP 1, mI lo, mI hi] b μ (fun v μ' => v = lo ∧ Fj rdJ μ μ' ∧ CDd T n μ' e) := deepC fun d hd => by
  have t4 := h.2.2.2.2.2.1
  refine cal_ev (fun r => call_X4_takeNumber d b μ lo hi) (ev_row (fun m => tX4_takeNumber_0 _ m b μ lo hi) ?_)
  rw [t4]
  refine ev_neg (by decide) (ev_row (fun m => tX4_takeNumber_21 _ m b μ lo hi) ?_)
  rw [t4]
  exact ev_neg (by decide) (ev_row (fun m => tX4_takeNumber_44 _ m b μ lo hi 1 _) (ev_callP (sX4_fail_dead 1 _ b μ h d (by omega)) (fun _ μ1 h1 => ev_ret ⟨rfl, h1⟩)))
/-! names -/
def ltL (T : Int → Int) : Nat → Int → List Int
  | 0, _ => []
  | k + 1, i => (T i - 96) :: ltL T k (i + 1)
def nmL (T : Int → Int) (n s : Int) : List Int := ltL T (bhd T n s - s).toNat s
theorem ltL_len {T : Int → Int} : ∀ (k : Nat) (i : Int), (ltL T k i).length = k
  | 0, _ => rfl
  | k + 1, i => by rw [ltL, List.length_cons, ltL_len k]
theorem ltL_in {T : Int → Int} : ∀ (k : Nat) (i : Int), (∀ j, i ≤ j → j < i + k → 97 ≤ T j ∧ T j ≤ 122) → ∀ c ∈ ltL T k i, 1 ≤ c ∧ c ≤ 26
  | 0, _, _, c, hc => absurd hc (by simp [ltL])
  | k + 1, i, h, c, hc => by
    rw [ltL, List.mem_cons] at hc
    rcases hc with hc | hc
    · have := h i (by omega) (by omega); omega
    · exact ltL_in k (i + 1) (fun j j0 j1 => h j (by omega) (by omega)) c hc
theorem or_shl5 {v c : Int} (v0 : 0 ≤ v) (v1 : v < 33554432) (c0 : 0 ≤ c) (c1 : c < 32) : iOr (iShl v 5) c = c + 32 * v := by
  have e : iShl v 5 = ((v.toNat <<< 5 : Nat) : Int) := by
    refine bv_int ?_ ?_
    · rw [Int32.toBitVec_shiftLeft]
      have hm : ((Int32.ofInt 5 &&& 31).toBitVec.smod 32).toNat = 5 := by decide
      show ((Int32.ofInt v).toBitVec <<< ((Int32.ofInt 5 &&& 31).toBitVec.smod 32).toNat).toNat = _
      rw [hm, BitVec.toNat_shiftLeft, bv_nat v0 (by omega), Nat.shiftLeft_eq, Nat.mod_eq_of_lt (by omega)]
    · rw [Nat.shiftLeft_eq]; omega
  have hlt : v.toNat <<< 5 < 2147483648 := by rw [Nat.shiftLeft_eq]; omega
  rw [e, iOr_n (Int.natCast_nonneg _) (by omega) c0 (by omega), Int.toNat_natCast]
  rw [← Nat.shiftLeft_add_eq_or_of_lt (by omega : c.toNat < 2 ^ 5), Nat.shiftLeft_eq]
  omega
