theorem pk5_lt : ∀ (l : List Int), (∀ c ∈ l, 1 ≤ c ∧ c ≤ 26) → 0 ≤ pk5 l ∧ pk5 l < ((32 ^ l.length : Nat) : Int)
  | [], _ => ⟨Int.le_refl _, by decide⟩
  | c :: r, h => by
    obtain ⟨h0, h1⟩ := pk5_lt r (fun x hx => h x (List.mem_cons_of_mem _ hx))
    have hc := h c List.mem_cons_self
    rw [pk5, List.length_cons, Nat.pow_succ]
    generalize 32 ^ r.length = P at h1
    omega
/-- a name stands here -/
def isNm (T : Int → Int) (n s : Int) (g : Bool) : Prop := tkK T n s g = 1 ∧ tkW T n s g = -1
def nmO (T : Int → Int) (n s : Int) (g : Bool) : Prop := isNm T n s g ∧ bhd T n s - s ≤ 6
/-- where a name is asked and is none -/
def naE (T : Int → Int) (n s : Int) (g : Bool) (e : Int × Int) : Prop := (¬ isNm T n s g ∧ e = (1, s)) ∨ (isNm T n s g ∧ 6 < bhd T n s - s ∧ e = (1, s + 6))
theorem nmO_or (T : Int → Int) (n s : Int) (g : Bool) : nmO T n s g ∨ ∃ e, naE T n s g e := by
  by_cases c : isNm T n s g
  · by_cases c2 : bhd T n s - s ≤ 6
    · exact Or.inl ⟨c, c2⟩
    · exact Or.inr ⟨_, Or.inr ⟨c, by omega, rfl⟩⟩
  · exact Or.inr ⟨_, Or.inl ⟨c, rfl⟩⟩
theorem tkK1 {T : Int → Int} {n s : Int} {g : Bool} (hT : Tp T n) (hv : VC T n s) (hk : tkK T n s g = 1) : s < n ∧ kdO (T s) = 1 ∧ g = false := by
  rcases tkK_or (g := g) hT hv with ⟨c, -⟩ | ⟨c, ⟨-, c1, c2⟩ | ⟨c2, -⟩ | ⟨c2, -⟩ | ⟨c2, -⟩⟩
  · omega
  · exact ⟨c, c2, c1⟩
  · omega
  · omega
  · omega
theorem tkK2 {T : Int → Int} {n s : Int} {g : Bool} (hT : Tp T n) (hv : VC T n s) (hk : tkK T n s g = 2) : s < n ∧ kdO (T s) = 2 ∧ g = false := by
  rcases tkK_or (g := g) hT hv with ⟨c, -⟩ | ⟨c, ⟨c2, -⟩ | ⟨-, c1, c2⟩ | ⟨c2, -⟩ | ⟨c2, -⟩⟩
  · omega
  · omega
  · exact ⟨c, c2, c1⟩
  · omega
  · omega
theorem tkK3 {T : Int → Int} {n s : Int} {g : Bool} (hT : Tp T n) (hv : VC T n s) (hk : tkK T n s g = 3) : s < n ∧ kdO (T s) = 3 := by
  rcases tkK_or (g := g) hT hv with ⟨c, -⟩ | ⟨c, ⟨c2, -⟩ | ⟨c2, -⟩ | ⟨-, c2⟩ | ⟨c2, -⟩⟩
  · omega
  · omega
  · omega
  · exact ⟨c, c2⟩
  · omega
theorem nmL_ok {T : Int → Int} {n s : Int} {g : Bool} (hT : Tp T n) (hv : VC T n s) (h : nmO T n s g) : 1 ≤ (nmL T n s).length ∧ (nmL T n s).length ≤ 6 ∧ ∀ c ∈ nmL T n s, 1 ≤ c ∧ c ≤ 26 := by
  obtain ⟨c1, c2, -⟩ := tkK1 hT hv h.1.1
  obtain ⟨u1, u2, u3, u4⟩ := bhd_run hv.1 c1 (Or.inl c2)
  have hl := h.2
  refine ⟨?_, ?_, ?_⟩
  · unfold nmL; rw [ltL_len]; omega
  · unfold nmL; rw [ltL_len]; omega
  · exact ltL_in _ s (fun j j0 j1 => let_in (by rw [u1 j j0 (by omega)]; exact c2))
theorem sX4_takeName_ok {T : Int → Int} {n s : Int} {g : Bool} (hT : Tp T n) (b : Bool) (μ : Nat → Int → Int) (h : CLv T n μ s g) (hn : nmO T n s g) : ∀ d, 3 ≤ d → Cal d 177 [mP 1] b μ (fun v μ' => v = pk5 (nmL T n s) ∧ Fj rdJ μ μ' ∧ CLv T n μ' (nxS T n s) (nxG T n s g)) := deepC fun d hd => by
  obtain ⟨m2', m3, mf, mp, ⟨t4, t5, t6, t7, t8⟩, hv⟩ := h
  have h : CLv T n μ s g := ⟨m2', m3, mf, mp, ⟨t4, t5, t6, t7, t8⟩, hv⟩
  obtain ⟨c1, c2, -⟩ := tkK1 hT hv hn.1.1
  obtain ⟨u1, u2, u3, u4⟩ := bhd_run hv.1 c1 (Or.inl c2)
  have hs0 := hv.1
  have hl := hn.2
  have hn1 := hT.2.1
  have lp : ∀ (k : Nat) (r : Nat), s + k + r = bhd T n s → r ≤ 6 → Ev (fun m => mRun (mCallN d) kX4_takeName m 64 [some (mP 1), some (mI (pk5 (ltL T r (s + k)))), some (mI (s + k - 1))] [] (SH, μ, RHO b)) b (fun v μ' => v = pk5 (nmL T n s) ∧ Fj rdJ μ μ' ∧ CLv T n μ' (nxS T n s) (nxG T n s g)) := by
    intro k
    induction k with
    | zero =>
      intro r hr r6
      refine ev_row (fun m => tX4_takeName_64 _ m b μ _ _) ?_
      rw [t7]
      refine ev_pos (by omega) (ev_callP (sX4_take hT b μ h d hd) (fun _ μ1 hh => ev_ret ⟨?_, hh⟩))
      unfold nmL
      rw [show (bhd T n s - s).toNat = r by omega, show s + ((0 : Nat) : Int) = s by omega]
    | succ k ih =>
      intro r hr r6
      have hle := let_in (c := T (s + k)) (by rw [u1 (s + k) (by omega) (by omega)]; exact c2)
      have hbt := sX6_byteA (s + k) b μ (by omega) d (by omega)
      rw [m2', m3, byA_in (by omega) (by omega)] at hbt
      have hp := pk5_lt (ltL T r (s + ((k + 1 : Nat) : Int))) (ltL_in _ _ (fun j j0 j1 => let_in (by rw [u1 j (by omega) (by omega)]; exact c2)))
      rw [ltL_len] at hp
      have hp5 : (32 : Nat) ^ r ≤ 32 ^ 5 := Nat.pow_le_pow_right (by decide) (by omega)
      refine ev_row (fun m => tX4_takeName_64 _ m b μ _ _) ?_
      rw [t7]
      refine ev_neg (by omega) ?_
      rw [show s + ((k + 1 : Nat) : Int) - 1 = s + k by omega]
      refine ev_call hbt ?_
      dsimp only
      rw [show w32 (T (s + k) - 97) = T (s + k) - 97 from w32_id (by omega) (by omega), show w32 (T (s + k) - 97 + 1) = T (s + k) - 96 from by rw [w32_id (by omega) (by omega)]; omega, or_shl5 hp.1 (by omega) (by omega) (by omega), show w32 (s + (k : Int) + (-1)) = s + k - 1 from by rw [w32_id (by omega) (by omega)]; omega]
      have := ih (r + 1) (by omega) (by omega)
      rw [show ltL T (r + 1) (s + (k : Int)) = (T (s + k) - 96) :: ltL T r (s + (k : Int) + 1) from rfl, pk5, show s + (k : Int) + 1 = s + ((k + 1 : Nat) : Int) by omega] at this
      exact this
  refine cal_ev (fun r => call_X4_takeName d b μ) (ev_row (fun m => tX4_takeName_0 _ m b μ) ?_)
  rw [t4, t5, t7, t8, show w32 (bhd T n s - s) = bhd T n s - s from w32_id (by omega) (by omega), show w32 (bhd T n s - 1) = bhd T n s - 1 from w32_id (by omega) (by omega)]
  refine ev_pos hn.1.1 (ev_pos hn.1.2 (ev_neg (by omega) ?_))
  have := lp (bhd T n s - s).toNat 0 (by omega) (by omega)
  rw [show s + (((bhd T n s - s).toNat : Nat) : Int) - 1 = bhd T n s - 1 by omega] at this
  exact this
theorem sX4_takeName_er {T : Int → Int} {n s : Int} {g : Bool} {e : Int × Int} (hT : Tp T n) (b : Bool) (μ : Nat → Int → Int) (h : CLv T n μ s g) (he : naE T n s g e) : ∀ d, 3 ≤ d → Cal d 177 [mP 1] b μ (fun v μ' => v = 0 ∧ Fj rdJ μ μ' ∧ CDd T n μ' e) := deepC fun d hd => by
  obtain ⟨m2', m3, mf, mp, ⟨t4, t5, t6, t7, t8⟩, hv⟩ := h
  have h : CLv T n μ s g := ⟨m2', m3, mf, mp, ⟨t4, t5, t6, t7, t8⟩, hv⟩
  obtain ⟨q1, q2, q3, q4, q5⟩ := bhd_in hT hv.1 hv.2.1
  have hs0 := hv.1
  have hn1 := hT.2.1
  have bad : e = (1, s) → Ev (fun m => mRun (mCallN d) kX4_takeName m 16 [some (mP 1), none, none] [] (SH, μ, RHO b)) b (fun v μ' => v = 0 ∧ Fj rdJ μ μ' ∧ CDd T n μ' e) := fun hee => by
    refine ev_row (fun m => tX4_takeName_16 _ m b μ) ?_
    rw [t7, hee]
    exact ev_callP (sX4_fail 1 s (by decide) b μ h d (by omega)) (fun _ μ1 h1 => ev_ret ⟨rfl, h1⟩)
  refine cal_ev (fun r => call_X4_takeName d b μ) (ev_row (fun m => tX4_takeName_0 _ m b μ) ?_)
  rw [t4, t5, t7, t8, w32_id (by omega) (by omega), w32_id (by omega) (by omega), w32_id (by omega) (by omega)]
  rcases he with ⟨c1, c2⟩ | ⟨c1, c2, c3⟩
  · refine ev_br (fun k1 => ev_br (fun k2 => absurd ⟨k1, k2⟩ c1) (fun _ => bad c2)) (fun _ => bad c2)
  · refine ev_pos c1.1 (ev_pos c1.2 (ev_pos c2 ?_))
    rw [c3]
    exact ev_callP (sX4_fail 1 (s + 6) (by decide) b μ h d (by omega)) (fun _ μ1 h1 => ev_ret ⟨rfl, h1⟩)
theorem sX4_takeName_dd {T : Int → Int} {n : Int} {e : Int × Int} (b : Bool) (μ : Nat → Int → Int) (h : CDd T n μ e) : ∀ d, 3 ≤ d → Cal d 177 [mP 1] b μ (fun v μ' => v = 0 ∧ Fj rdJ μ μ' ∧ CDd T n μ' e) := deepC fun d hd => by
  refine cal_ev (fun r => call_X4_takeName d b μ) (ev_row (fun m => tX4_takeName_0 _ m b μ) ?_)
  rw [h.2.2.2.2.2.1]
  exact ev_neg (by decide) (ev_row (fun m => tX4_takeName_16 _ m b μ) (ev_callP (sX4_fail_dead 1 _ b μ h d (by omega)) (fun _ μ1 h1 => ev_ret ⟨rfl, h1⟩)))
/-! ===== the class writes code ===== -/
/-- what reading an expression may change -/
def Xf (b : Bool) (μ μ' : Nat → Int → Int) : Prop := Fr [1, tw (!b), tw (!b) + 15] μ μ' ∧ (∀ j, j ∉ rdJ → μ' 1 j = μ 1 j) ∧ ∀ j, j ≠ 13 → μ' (tw (!b)) j = μ (tw (!b)) j
theorem xf_rfl {b : Bool} {μ : Nat → Int → Int} : Xf b μ μ := ⟨fr_rfl, fun _ _ => rfl, fun _ _ => rfl⟩
theorem xf_tr {b : Bool} {μ μ' μ2 : Nat → Int → Int} (h : Xf b μ μ') (h2 : Xf b μ' μ2) : Xf b μ μ2 := ⟨fr_tr h.1 h2.1 (fun a ha => ha), fun j hj => by rw [h2.2.1 j hj, h.2.1 j hj], fun j hj => by rw [h2.2.2 j hj, h.2.2 j hj]⟩
theorem tw_ne1 (b : Bool) : tw b ≠ 1 := by have := tw_or b; omega
theorem xf_fj {b : Bool} {μ μ' : Nat → Int → Int} (h : Fj rdJ μ μ') : Xf b μ μ' := ⟨fr_sub h.1 (fun a ha => by
  have : a = 1 := by simpa using ha
  rw [this]; exact List.mem_cons_self), h.2, fun j _ => by rw [h.1 (tw (!b)) (by have := tw_or (!b); simp; omega)]⟩
/-- code has come behind: of the reference's codes L -/
def App (b : Bool) (μ μ' : Nat → Int → Int) (L : List Int) : Prop := μ' (tw (!b)) 13 = μ (tw (!b)) 13 + (L.length : Int) ∧ (∀ x, x < μ (tw (!b)) 13 → μ' (tw (!b) + 15) x = μ (tw (!b) + 15) x) ∧ ∀ i : Nat, i < L.length → μ' (tw (!b) + 15) (μ (tw (!b)) 13 + (i : Int)) = cOf (L.getD i 0)
theorem app_fj {b : Bool} {μ μ' : Nat → Int → Int} (h : Fj rdJ μ μ') : App b μ μ' [] := by
  have := tw_or (!b)
  exact ⟨by rw [h.1 (tw (!b)) (by simp; omega)]; simp, fun x _ => by rw [h.1 (tw (!b) + 15) (by simp)], fun i hi => absurd hi (by simp)⟩
theorem app_tr {b : Bool} {μ μ' μ2 : Nat → Int → Int} {L K : List Int} (h : App b μ μ' L) (h2 : App b μ' μ2 K) : App b μ μ2 (L ++ K) := by
  obtain ⟨a1, a2, a3⟩ := h
  obtain ⟨b1, b2, b3⟩ := h2
  refine ⟨by rw [b1, a1, List.length_append]; omega, fun x hx => by rw [b2 x (by omega), a2 x hx], fun i hi => ?_⟩
  rw [List.length_append] at hi
  by_cases c : i < L.length
  · rw [b2 _ (by omega), a3 i c, List.getD_eq_getElem?_getD, List.getD_eq_getElem?_getD, List.getElem?_append_left c]
  · have := b3 (i - L.length) (by omega)
    rw [a1] at this
    rw [show μ (tw (!b)) 13 + (i : Int) = μ (tw (!b)) 13 + (L.length : Int) + ((i - L.length : Nat) : Int) by omega, this, List.getD_eq_getElem?_getD, List.getD_eq_getElem?_getD, List.getElem?_append_right (by omega)]
theorem CLv_same {T : Int → Int} {n s : Int} {g : Bool} {μ μ' : Nat → Int → Int} (h : CLv T n μ s g) (h1 : μ' 1 = μ 1) (h2 : μ' 2 = μ 2) (h3 : μ' 3 = μ 3) : CLv T n μ' s g := by
  unfold CLv Tok at *
  rw [h1, h2, h3]; exact h
theorem CDd_same {T : Int → Int} {n : Int} {e : Int × Int} {μ μ' : Nat → Int → Int} (h : CDd T n μ e) (h1 : μ' 1 = μ 1) (h2 : μ' 2 = μ 2) (h3 : μ' 3 = μ 3) : CDd T n μ' e := by
  unfold CDd at *
  rw [h1, h2, h3]; exact h
theorem sX7_emit (v y : Int) (hy : v = cOf y) (b : Bool) (μ : Nat → Int → Int) (h0 : 0 ≤ μ (tw (!b)) 13) (h1 : μ (tw (!b)) 13 < 1600) : ∀ d, 1 ≤ d → Cal d 198 [mP (tw (!b)), mI v] b μ (fun _ μ' => Xf b μ μ' ∧ App b μ μ' [y] ∧ μ' 1 = μ 1 ∧ μ' 2 = μ 2 ∧ μ' 3 = μ 3) := deepC fun d hd => by
  have ht := tw_or (!b)
  have ne : tw (!b) ≠ tw (!b) + 15 := by omega
  refine cal_ev (fun r => call_X7_emit d b μ v (!b)) (ev_row (fun m => tX7_emit_0 _ m b μ v (!b)) (ev_pos h1 (ev_if ⟨h0, h1⟩ (ev_row (fun m => tX7_emit_32 _ m b _ v (!b)) (ev_ret ?_)))))
  refine ⟨⟨fr_m2 (fr_m2 fr_rfl (by simp)) (by simp), fun j _ => ?_, fun j hj => ?_⟩, ⟨?_, fun x hx => ?_, fun i hi => ?_⟩, ?_, ?_, ?_⟩
  · rw [m2_ne (by omega), m2_ne (by omega)]
  · rw [m2_at, if_neg hj, m2_ne ne]
  · rw [m2_at, if_pos rfl, m2_ne ne, w32_id (by omega) (by omega)]; rfl
  · rw [m2_ne (by omega), m2_at, if_neg (by omega)]
  · have hi0 : i = 0 := by have : i < 1 := hi; omega
    subst hi0
    rw [m2_ne (by omega), m2_at, if_pos (by omega), hy]; rfl
  · rw [m2_ne (by omega), m2_ne (by omega)]
  · rw [m2_ne (by omega), m2_ne (by omega)]
  · rw [m2_ne (by omega), m2_ne (by omega)]
theorem sX7_emit_dd (v : Int) (b : Bool) (μ : Nat → Int → Int) (h0 : 0 ≤ μ (tw (!b)) 13) : ∀ d, 1 ≤ d → Cal d 198 [mP (tw (!b)), mI v] b μ (fun _ μ' => Xf b μ μ' ∧ 0 ≤ μ' (tw (!b)) 13 ∧ μ' 1 = μ 1 ∧ μ' 2 = μ 2 ∧ μ' 3 = μ 3) := deepC fun d hd => by
  have ht := tw_or (!b)
  have ne : tw (!b) ≠ tw (!b) + 15 := by omega
  refine cal_ev (fun r => call_X7_emit d b μ v (!b)) (ev_row (fun m => tX7_emit_0 _ m b μ v (!b)) (ev_br (fun h1 => ev_if ⟨h0, h1⟩ (ev_row (fun m => tX7_emit_32 _ m b _ v (!b)) (ev_ret ?_))) (fun _ => ev_row (fun m => tX7_emit_32 _ m b _ v (!b)) (ev_ret ⟨xf_rfl, h0, rfl, rfl, rfl⟩))))
  refine ⟨⟨fr_m2 (fr_m2 fr_rfl (by simp)) (by simp), fun j _ => ?_, fun j hj => ?_⟩, ?_, ?_, ?_, ?_⟩
  · rw [m2_ne (by omega), m2_ne (by omega)]
  · rw [m2_at, if_neg hj, m2_ne ne]
  · rw [m2_at, if_pos rfl, m2_ne ne, w32_id (by omega) (by omega)]; omega
  · rw [m2_ne (by omega), m2_ne (by omega)]
  · rw [m2_ne (by omega), m2_ne (by omega)]
  · rw [m2_ne (by omega), m2_ne (by omega)]
/-- a joint of a level, as the reference's code; 0 none -/
def jnt (T : Int → Int) (n s : Int) (g : Bool) (lv : Int) : Int := if lv = 0 then (if tkW T n s g = 16 then 16 else 0) else if lv = 1 then (if tkW T n s g = 17 then 15 else 0) else if lv = 2 then (if tkS T n s g = 43 then 1 else if tkS T n s g = 45 then 2 else 0) else (if tkS T n s g = 42 then 3 else if tkS T n s g = 47 then 4 else 0)
/-- a joint as the class has it -/
def jC (j : Int) : Int := if j = 0 then -1 else cOf j
theorem sX4_nextJoint {T : Int → Int} {n s : Int} {g : Bool} (lv : Int) (b : Bool) (μ : Nat → Int → Int) (h : CLv T n μ s g) : ∀ d, 1 ≤ d → mCallN d 163 [mP 1, mI lv] (SH, μ, RHO b) = some (jC (jnt T n s g lv), SH, μ, RHO b) := deep fun d _ => by
  obtain ⟨-, -, -, -, ⟨t4, t5, t6, t7, t8⟩, -⟩ := h
  refine cal_eq (cal_ev (fun r => call_X4_nextJoint d b μ lv) (ev_row (fun m => tX4_nextJoint_0 _ m b μ lv) ?_))
  rw [t5, t6]
  unfold jnt
  by_cases l0 : lv = 0
  · rw [if_pos l0]
    refine ev_if l0 (ev_br (fun e => ev_row (fun m => tX4_nextJoint_43 _ m b μ lv _) (ev_ret ⟨by rw [if_pos e]; rfl, rfl⟩)) (fun e => ev_row (fun m => tX4_nextJoint_43 _ m b μ lv _) (ev_ret ⟨by rw [if_neg e]; rfl, rfl⟩)))
  · rw [if_neg l0]
    refine ev_if0 l0 ?_
    by_cases l1 : lv = 1
    · rw [if_pos l1]
      refine ev_if l1 (ev_br (fun e => ev_row (fun m => tX4_nextJoint_59 _ m b μ lv _) (ev_ret ⟨by rw [if_pos e]; rfl, rfl⟩)) (fun e => ev_row (fun m => tX4_nextJoint_59 _ m b μ lv _) (ev_ret ⟨by rw [if_neg e]; rfl, rfl⟩)))
    · rw [if_neg l1]
      refine ev_if0 l1 ?_
      by_cases l2 : lv = 2
      · rw [if_pos l2]
        refine ev_if l2 (ev_br (fun e => ev_row (fun m => tX4_nextJoint_89 _ m b μ lv _) (ev_ret ⟨by rw [if_pos e]; rfl, rfl⟩)) (fun e => ev_br (fun e2 => ev_row (fun m => tX4_nextJoint_89 _ m b μ lv _) (ev_ret ⟨by rw [if_neg e, if_pos e2]; rfl, rfl⟩)) (fun e2 => ev_row (fun m => tX4_nextJoint_89 _ m b μ lv _) (ev_ret ⟨by rw [if_neg e, if_neg e2]; rfl, rfl⟩))))
      · rw [if_neg l2]
        refine ev_if0 l2 (ev_br (fun e => ev_row (fun m => tX4_nextJoint_119 _ m b μ lv _) (ev_ret ⟨by rw [if_pos e]; rfl, rfl⟩)) (fun e => ev_br (fun e2 => ev_row (fun m => tX4_nextJoint_119 _ m b μ lv _) (ev_ret ⟨by rw [if_neg e, if_pos e2]; rfl, rfl⟩)) (fun e2 => ev_row (fun m => tX4_nextJoint_119 _ m b μ lv _) (ev_ret ⟨by rw [if_neg e, if_neg e2]; rfl, rfl⟩))))
theorem sX4_nextJoint_dd {T : Int → Int} {n : Int} {e : Int × Int} (lv : Int) (b : Bool) (μ : Nat → Int → Int) (h : CDd T n μ e) : ∀ d, 1 ≤ d → mCallN d 163 [mP 1, mI lv] (SH, μ, RHO b) = some (-1, SH, μ, RHO b) := deep fun d _ => by
  obtain ⟨-, -, -, -, -, -, t5, t6⟩ := h
  refine cal_eq (cal_ev (fun r => call_X4_nextJoint d b μ lv) (ev_row (fun m => tX4_nextJoint_0 _ m b μ lv) ?_))
  rw [t5, t6]
  by_cases l0 : lv = 0
  · exact ev_if l0 (ev_neg (by decide) (ev_row (fun m => tX4_nextJoint_43 _ m b μ lv _) (ev_ret ⟨rfl, rfl⟩)))
  · refine ev_if0 l0 ?_
    by_cases l1 : lv = 1
    · exact ev_if l1 (ev_neg (by decide) (ev_row (fun m => tX4_nextJoint_59 _ m b μ lv _) (ev_ret ⟨rfl, rfl⟩)))
    · refine ev_if0 l1 ?_
      by_cases l2 : lv = 2
      · exact ev_if l2 (ev_neg (by decide) (ev_neg (by decide) (ev_row (fun m => tX4_nextJoint_89 _ m b μ lv _) (ev_ret ⟨rfl, rfl⟩))))
      · exact ev_if0 l2 (ev_neg (by decide) (ev_neg (by decide) (ev_row (fun m => tX4_nextJoint_119 _ m b μ lv _) (ev_ret ⟨rfl, rfl⟩))))
