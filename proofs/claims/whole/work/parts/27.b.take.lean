/-! ===== the class goes on to the next token ===== -/
def Tok (T : Int → Int) (n : Int) (μ : Nat → Int → Int) (s : Int) (g : Bool) : Prop := μ 1 4 = tkK T n s g ∧ μ 1 5 = tkW T n s g ∧ μ 1 6 = tkS T n s g ∧ μ 1 7 = s ∧ μ 1 8 = bhd T n s
/-- only these fields of the reader -/
def Fj (J : List Int) (μ μ' : Nat → Int → Int) : Prop := Fr [1] μ μ' ∧ ∀ j, j ∉ J → μ' 1 j = μ 1 j
theorem fj_rfl {J : List Int} {μ : Nat → Int → Int} : Fj J μ μ := ⟨fr_rfl, fun _ _ => rfl⟩
theorem fj_m2 {J : List Int} {μ μ' : Nat → Int → Int} {i v : Int} (h : Fj J μ μ') (hi : i ∈ J) : Fj J μ (m2 μ' 1 i v) := ⟨fr_m2 h.1 (by decide), fun j hj => by rw [m2_at, if_neg (fun e => hj (by rw [e]; exact hi))]; exact h.2 j hj⟩
theorem fj_tr {J : List Int} {μ μ' μ2 : Nat → Int → Int} (h : Fj J μ μ') (h2 : Fj J μ' μ2) : Fj J μ μ2 := ⟨fr_tr h.1 h2.1 (fun a ha => ha), fun j hj => by rw [h2.2 j hj, h.2 j hj]⟩
theorem fj_sub {J K : List Int} {μ μ' : Nat → Int → Int} (h : Fj K μ μ') (hs : ∀ a, a ∈ K → a ∈ J) : Fj J μ μ' := ⟨h.1, fun j hj => h.2 j (fun e => hj (hs j e))⟩
def tkJ : List Int := [4, 5, 6, 7, 8]
theorem sX4_take_gen {T : Int → Int} {n a : Int} {g : Bool} (hT : Tp T n) (b : Bool) (μ : Nat → Int → Int) (h2 : μ 2 1 = n) (h3 : μ 3 = T) (hf : μ 1 2 = 0) (h8 : μ 1 8 = a) (a0 : 0 ≤ a) (a1 : a ≤ n) (hg : g = (decide (μ 1 4 = 1 ∨ μ 1 4 = 2) && decide (skp T n a = a))) : ∀ d, 2 ≤ d → Cal d 174 [mP 1] b μ (fun _ μ' => Fj tkJ μ μ' ∧ Tok T n μ' (skp T n a) g) := deepC fun d hd => by
  obtain ⟨p1, p2, p3, p4⟩ := skp_in (T := T) a1
  have hn := hT.2.1
  generalize hs : skp T n a = s at *
  have hVC : VC T n s := ⟨by omega, p2, p4⟩
  obtain ⟨q1, q2, q3, q4, q5⟩ := bhd_in hT hVC.1 hVC.2.1
  have bA : ∀ (k : Int) (μ' : Nat → Int → Int), Fj tkJ μ μ' → mCallN d 191 [mP 2, mI k] (SH, μ', RHO b) = some (byA T n k, SH, μ', RHO b) := fun k μ' h => by
    have h21 : μ' 2 1 = n := by rw [h.1 2 (by decide)]; exact h2
    have h33 : μ' 3 = T := by rw [h.1 3 (by decide)]; exact h3
    have := sX6_byteA k b μ' (by omega) d (by omega)
    rwa [h21, h33] at this
  -- word and sign
  have st229 : ∀ (v1 v2 : Int) (μ' : Nat → Int → Int), Fj tkJ μ μ' → μ' 1 4 = tkK T n s g → μ' 1 7 = s → μ' 1 8 = bhd T n s → Ev (fun m => mRun (mCallN d) kX4_take m 229 [some (mP 1), some (mI v1), some (mI v2)] [] (SH, μ', RHO b)) b (fun _ μ' => Fj tkJ μ μ' ∧ Tok T n μ' s g) := fun v1 v2 μ' h k4 k7 k8 => by
    have st246 : ∀ w : Int, w = tkW T n s g → Ev (fun m => mRun (mCallN d) kX4_take m 246 [some (mP 1), some (mI v1), some (mI v2)] [mI w, mP 1] (SH, μ', RHO b)) b (fun _ μ' => Fj tkJ μ μ' ∧ Tok T n μ' s g) := fun w hw => by
      have hm := fj_m2 (i := 5) (v := w) h (by decide)
      have st273 : ∀ c : Int, c = tkS T n s g → Ev (fun m => mRun (mCallN d) kX4_take m 273 [some (mP 1), some (mI v1), some (mI v2)] [mI c, mP 1] (SH, m2 μ' 1 5 w, RHO b)) b (fun _ μ' => Fj tkJ μ μ' ∧ Tok T n μ' s g) := fun c hc => by
        refine ev_row (fun m => tX4_take_273 _ m b _ v1 v2 c) (ev_ret ⟨fj_m2 hm (by decide), ?_, ?_, ?_, ?_, ?_⟩)
        · rw [m2_at, if_neg (by decide), m2_at, if_neg (by decide)]; exact k4
        · rw [m2_at, if_neg (by decide), m2_at, if_pos rfl]; exact hw
        · rw [m2_at, if_pos rfl]; exact hc
        · rw [m2_at, if_neg (by decide), m2_at, if_neg (by decide)]; exact k7
        · rw [m2_at, if_neg (by decide), m2_at, if_neg (by decide)]; exact k8
      refine ev_row (fun m => tX4_take_246 _ m b μ' v1 v2 w) ?_
      have e4 : (m2 μ' 1 5 w) 1 4 = tkK T n s g := by rw [m2_at, if_neg (by decide)]; exact k4
      have e7 : (m2 μ' 1 5 w) 1 7 = s := by rw [m2_at, if_neg (by decide)]; exact k7
      rw [e4, e7]
      refine ev_br (fun e => ev_call (bA s _ hm) (st273 _ ?_)) (fun e => st273 _ ?_)
      · unfold tkS
        rw [if_pos e]
        have : s < n := by
          rcases tkK_or (g := g) hT hVC with ⟨c, -⟩ | ⟨c, -⟩
          · omega
          · exact c
        exact byA_in hVC.1 this
      · unfold tkS
        rw [if_neg e]
    refine ev_row (fun m => tX4_take_229 _ m b μ' v1 v2) ?_
    rw [k4]
    refine ev_br (fun e => ?_) (fun e => st246 _ ?_)
    · have hh : s < n ∧ kdO (T s) = 1 := by
        rcases tkK_or (g := g) hT hVC with ⟨c, -⟩ | ⟨c, ⟨-, -, c2⟩ | ⟨c2, -⟩ | ⟨c2, -⟩ | ⟨c2, -⟩⟩
        · omega
        · exact ⟨c, c2⟩
        · omega
        · omega
        · omega
      refine ev_call (sX4_ownWord hT b μ' (by rw [h.1 3 (by decide)]; exact h3) k7 k8 hVC.1 hh.1 hh.2 d (by omega)) (st246 _ ?_)
      unfold tkW
      rw [if_pos e]
    · unfold tkW
      rw [if_neg e]
  -- sticks or not
  have st205 : ∀ (v1 : Int) (μ' : Nat → Int → Int), (v1 = if μ 1 4 = 1 ∨ μ 1 4 = 2 then 1 else 0) → Fj tkJ μ μ' → μ' 1 4 = kdO (byA T n s) → (kdO (byA T n s) = 1 ∨ kdO (byA T n s) = 2) → μ' 1 7 = s → μ' 1 8 = bhd T n s → Ev (fun m => mRun (mCallN d) kX4_take m 205 [some (mP 1), some (mI v1), some (mI a)] [] (SH, μ', RHO b)) b (fun _ μ' => Fj tkJ μ μ' ∧ Tok T n μ' s g) := fun v1 μ' hv h k4 hk k7 k8 => by
    have st226 : ∀ c : Int, c = tkK T n s g → Ev (fun m => mRun (mCallN d) kX4_take m 226 [some (mP 1), some (mI v1), some (mI a)] [mI c, mP 1] (SH, μ', RHO b)) b (fun _ μ' => Fj tkJ μ μ' ∧ Tok T n μ' s g) := fun c hc => by
      refine ev_row (fun m => tX4_take_226 _ m b μ' v1 a c) (st229 v1 a _ (fj_m2 h (by decide)) ?_ ?_ ?_)
      · rw [m2_at, if_pos rfl]; exact hc
      · rw [m2_at, if_neg (by decide)]; exact k7
      · rw [m2_at, if_neg (by decide)]; exact k8
    have st222 : g = false → Ev (fun m => mRun (mCallN d) kX4_take m 222 [some (mP 1), some (mI v1), some (mI a)] [mP 1] (SH, μ', RHO b)) b (fun _ μ' => Fj tkJ μ μ' ∧ Tok T n μ' s g) := fun hgf => by
      refine ev_row (fun m => tX4_take_222 _ m b μ' v1 a) (st226 _ ?_)
      unfold tkK
      rw [if_neg (by rw [hgf]; simp)]; exact k4
    refine ev_row (fun m => tX4_take_205 _ m b μ' v1 a) ?_
    rw [k7]
    by_cases c1 : μ 1 4 = 1 ∨ μ 1 4 = 2
    · rw [if_pos c1] at hv
      refine ev_neg (by omega) (ev_br (fun e => st226 4 ?_) (fun e => st222 ?_))
      · unfold tkK
        rw [if_pos ⟨by rw [hg, decide_eq_true c1, decide_eq_true e]; rfl, hk⟩]
      · rw [hg, decide_eq_false e, Bool.and_false]
    · rw [if_neg c1] at hv
      exact ev_pos hv (st222 (by rw [hg, decide_eq_false c1, Bool.false_and]))
  -- the run
  have st157 : ∀ (v1 : Int), (v1 = if μ 1 4 = 1 ∨ μ 1 4 = 2 then 1 else 0) → (kdO (byA T n s) = 1 ∨ kdO (byA T n s) = 2) → s < n → ∀ (r : Nat) (e : Int) (μ' : Nat → Int → Int), e + r = bhd T n s → s < e → Fj tkJ μ μ' → μ' 1 4 = kdO (byA T n s) → μ' 1 7 = s → μ' 1 8 = e → Ev (fun m => mRun (mCallN d) kX4_take m 157 [some (mP 1), some (mI v1), some (mI a)] [] (SH, μ', RHO b)) b (fun _ μ' => Fj tkJ μ μ' ∧ Tok T n μ' s g) := fun v1 hv hk hsn => by
    have hk' : kdO (T s) = 1 ∨ kdO (T s) = 2 := by rw [byA_in hVC.1 hsn] at hk; exact hk
    obtain ⟨u1, u2, u3, u4⟩ := bhd_run hVC.1 hsn hk'
    intro r
    induction r with
    | zero =>
      intro e μ' he hse h k4 k7 k8
      have he' : e = bhd T n s := by omega
      have h21 : μ' 2 1 = n := by rw [h.1 2 (by decide)]; exact h2
      refine ev_row (fun m => tX4_take_157 _ m b μ' v1 a) ?_
      rw [k8, h21]
      refine ev_br (fun c => ev_call (bA e μ' h) (ev_call (sX4_kindOf _ b μ' d (by omega)) ?_)) (fun c => st205 v1 μ' hv h k4 hk k7 (by rw [k8, he']))
      refine ev_neg (by
        show ¬ (kdO (byA T n e) = μ' 1 4)
        rw [k4, byA_in (by omega) c, byA_in hVC.1 hsn, he']
        exact u2 (by omega)) (st205 v1 μ' hv h k4 hk k7 (by rw [k8, he']))
    | succ r ih =>
      intro e μ' he hse h k4 k7 k8
      have h21 : μ' 2 1 = n := by rw [h.1 2 (by decide)]; exact h2
      refine ev_row (fun m => tX4_take_157 _ m b μ' v1 a) ?_
      rw [k8, h21]
      refine ev_pos (by omega) (ev_call (bA e μ' h) (ev_call (sX4_kindOf _ b μ' d (by omega)) (ev_pos (by
        show kdO (byA T n e) = μ' 1 4
        rw [k4, byA_in (by omega) (by omega), byA_in hVC.1 hsn]
        exact u1 e (by omega) (by omega)) ?_)))
      refine ih (e + 1) _ (by omega) (by omega) (fj_m2 h (by decide)) ?_ ?_ ?_
      · dsimp only
        rw [m2_at, if_neg (by decide)]; exact k4
      · dsimp only
        rw [m2_at, if_neg (by decide)]; exact k7
      · dsimp only
        rw [m2_at, if_pos rfl, k8, w32_id (by omega) (by omega)]
  have st99 : ∀ (v1 : Int) (μ' : Nat → Int → Int), (v1 = if μ 1 4 = 1 ∨ μ 1 4 = 2 then 1 else 0) → Fj tkJ μ μ' → μ' 1 7 = s → Ev (fun m => mRun (mCallN d) kX4_take m 99 [some (mP 1), some (mI v1), some (mI a)] [] (SH, μ', RHO b)) b (fun _ μ' => Fj tkJ μ μ' ∧ Tok T n μ' s g) := fun v1 μ' hv h k7 => by
    refine ev_row (fun m => tX4_take_99 _ m b μ' v1 a) ?_
    rw [k7]
    refine ev_call (bA s μ' h) (ev_call (sX4_kindOf _ b μ' d (by omega)) ?_)
    have hm : Fj tkJ μ (m2 μ' 1 4 (kdO (byA T n s))) := fj_m2 h (by decide)
    have e4 : (m2 μ' 1 4 (kdO (byA T n s))) 1 4 = kdO (byA T n s) := by rw [m2_at, if_pos rfl]
    have e7 : (m2 μ' 1 4 (kdO (byA T n s))) 1 7 = s := by rw [m2_at, if_neg (by decide)]; exact k7
    have st138 : ∀ e : Int, (kdO (byA T n s) = 0 → e = s) → (kdO (byA T n s) ≠ 0 → e = s + 1) → Ev (fun m => mRun (mCallN d) kX4_take m 138 [some (mP 1), some (mI v1), some (mI a)] [mI e, mP 1] (SH, m2 μ' 1 4 (kdO (byA T n s)), RHO b)) b (fun _ μ' => Fj tkJ μ μ' ∧ Tok T n μ' s g) := fun e e0 e1 => by
      refine ev_row (fun m => tX4_take_138 _ m b _ v1 a e) ?_
      have f4 : (m2 (m2 μ' 1 4 (kdO (byA T n s))) 1 8 e) 1 4 = kdO (byA T n s) := by rw [m2_at, if_neg (by decide)]; exact e4
      have f7 : (m2 (m2 μ' 1 4 (kdO (byA T n s))) 1 8 e) 1 7 = s := by rw [m2_at, if_neg (by decide)]; exact e7
      have f8 : (m2 (m2 μ' 1 4 (kdO (byA T n s))) 1 8 e) 1 8 = e := by rw [m2_at, if_pos rfl]
      rw [f4]
      have go : (kdO (byA T n s) = 1 ∨ kdO (byA T n s) = 2) → Ev (fun m => mRun (mCallN d) kX4_take m 157 [some (mP 1), some (mI v1), some (mI a)] [] (SH, m2 (m2 μ' 1 4 (kdO (byA T n s))) 1 8 e, RHO b)) b (fun _ μ' => Fj tkJ μ μ' ∧ Tok T n μ' s g) := fun hk => by
        have hsn : s < n := by
          by_cases c : s = n
          · have := q5.2 c; omega
          · omega
        have := q3 hsn
        have := e1 (by omega)
        exact st157 v1 hv hk hsn (bhd T n s - e).toNat e _ (by omega) (by omega) (fj_m2 hm (by decide)) f4 f7 f8
      refine ev_br (fun c => go (Or.inl c)) (fun c => ev_br (fun c2 => go (Or.inr c2)) (fun c2 => ?_))
      refine st229 v1 a _ (fj_m2 hm (by decide)) ?_ f7 ?_
      · rw [f4]
        unfold tkK
        rw [if_neg (by omega)]
      · rw [f8]
        unfold bhd
        by_cases c3 : kdO (byA T n s) = 0
        · rw [if_pos c3]; exact e0 c3
        · rw [if_neg c3]
          have : kdO (byA T n s) = 3 := by
            rcases kdO_or (byA T n s) with ⟨q, -⟩ | ⟨q, -⟩ | ⟨q, -⟩ | ⟨q, -⟩
            · exact absurd q c3
            · exact absurd q c
            · exact absurd q c2
            · exact q
          rw [if_pos this]; exact e1 c3
    dsimp only
    rw [e4, e7]
    refine ev_br (fun e => st138 s (fun _ => rfl) (fun h => absurd e h)) (fun e => ?_)
    rw [w32_id (by omega) (by omega)]
    exact st138 (s + 1) (fun h => absurd h e) (fun _ => rfl)
  have st40 : ∀ (v1 : Int), (v1 = if μ 1 4 = 1 ∨ μ 1 4 = 2 then 1 else 0) → ∀ (r : Nat) (i : Int) (μ' : Nat → Int → Int), i + r = s → a ≤ i → Fj tkJ μ μ' → μ' 1 7 = i → Ev (fun m => mRun (mCallN d) kX4_take m 40 [some (mP 1), some (mI v1), some (mI a)] [] (SH, μ', RHO b)) b (fun _ μ' => Fj tkJ μ μ' ∧ Tok T n μ' s g) := fun v1 hv => by
    intro r
    induction r with
    | zero =>
      intro i μ' hi hai h k7
      have hi' : i = s := by omega
      have h21 : μ' 2 1 = n := by rw [h.1 2 (by decide)]; exact h2
      have k7' : μ' 1 7 = s := by rw [k7, hi']
      refine ev_row (fun m => tX4_take_40 _ m b μ' v1 a) ?_
      rw [k7', h21]
      refine ev_br (fun c => ev_call (bA s μ' h) ?_) (fun c => st99 v1 μ' hv h k7')
      have hb : byA T n s = T s := byA_in hVC.1 c
      have hnb := hVC.2.2 c
      refine ev_neg (by show ¬ (byA T n s = 32); rw [hb]; exact fun q => hnb (Or.inl q)) ?_
      dsimp only
      rw [k7']
      exact ev_call (bA s μ' h) (ev_neg (by show ¬ (byA T n s = 10); rw [hb]; exact fun q => hnb (Or.inr q)) (st99 v1 μ' hv h k7'))
    | succ r ih =>
      intro i μ' hi hai h k7
      have h21 : μ' 2 1 = n := by rw [h.1 2 (by decide)]; exact h2
      have hb : byA T n i = T i := byA_in (by omega) (by omega)
      have hbl := p3 i (by omega) (by omega)
      have go : Ev (fun m => mRun (mCallN d) kX4_take m 86 [some (mP 1), some (mI v1), some (mI a)] [] (SH, μ', RHO b)) b (fun _ μ' => Fj tkJ μ μ' ∧ Tok T n μ' s g) := by
        refine ev_row (fun m => tX4_take_86 _ m b μ' v1 a) ?_
        rw [k7, w32_id (by omega) (by omega)]
        exact ih (i + 1) _ (by omega) (by omega) (fj_m2 h (by decide)) (by rw [m2_at, if_pos rfl])
      refine ev_row (fun m => tX4_take_40 _ m b μ' v1 a) ?_
      rw [k7, h21]
      refine ev_pos (by omega) (ev_call (bA i μ' h) (ev_br (fun _ => go) (fun c => ?_)))
      have c' : ¬ (byA T n i = 32) := c
      rw [hb] at c'
      dsimp only
      rw [k7]
      exact ev_call (bA i μ' h) (ev_pos (by show byA T n i = 10; rw [hb]; exact hbl.resolve_left c') go)
  have st29 : ∀ (v1 : Int), (v1 = if μ 1 4 = 1 ∨ μ 1 4 = 2 then 1 else 0) → Ev (fun m => mRun (mCallN d) kX4_take m 29 [some (mP 1), none, none] [mI v1] (SH, μ, RHO b)) b (fun _ μ' => Fj tkJ μ μ' ∧ Tok T n μ' s g) := fun v1 hv => by
    refine ev_row (fun m => tX4_take_29 _ m b μ v1) ?_
    rw [h8]
    exact st40 v1 hv (s - a).toNat a _ (by omega) (Int.le_refl _) (fj_m2 fj_rfl (by decide)) (by rw [m2_at, if_pos rfl])
  refine cal_ev (fun r => call_X4_take d b μ) (ev_row (fun m => tX4_take_0 _ m b μ) (ev_pos hf (ev_br (fun c => ?_) (fun c => ev_br (fun c2 => ?_) (fun c2 => ?_)))))
  · exact ev_row (fun m => tX4_take_24 _ m b μ) (st29 1 (by rw [if_pos (Or.inl c)]))
  · exact ev_row (fun m => tX4_take_24 _ m b μ) (st29 1 (by rw [if_pos (Or.inr c2)]))
  · exact st29 0 (by rw [if_neg (by omega)])
/-- the class has read so far without a fault -/
def CLv (T : Int → Int) (n : Int) (μ : Nat → Int → Int) (s : Int) (g : Bool) : Prop := μ 2 1 = n ∧ μ 3 = T ∧ μ 1 2 = 0 ∧ μ 1 3 = -1 ∧ Tok T n μ s g ∧ VC T n s
/-- the class has found a fault -/
def CDd (T : Int → Int) (n : Int) (μ : Nat → Int → Int) (e : Int × Int) : Prop := μ 2 1 = n ∧ μ 3 = T ∧ μ 1 2 = e.1 ∧ e.1 ≠ 0 ∧ μ 1 3 = e.2 ∧ μ 1 4 = 0 ∧ μ 1 5 = -1 ∧ μ 1 6 = -1
def rdJ : List Int := [2, 3, 4, 5, 6, 7, 8]
theorem sX4_take {T : Int → Int} {n s : Int} {g : Bool} (hT : Tp T n) (b : Bool) (μ : Nat → Int → Int) (h : CLv T n μ s g) : ∀ d, 2 ≤ d → Cal d 174 [mP 1] b μ (fun _ μ' => Fj rdJ μ μ' ∧ CLv T n μ' (nxS T n s) (nxG T n s g)) := fun d hd => by
  obtain ⟨h2, h3, hf, hp, ⟨t4, t5, t6, t7, t8⟩, hv⟩ := h
  obtain ⟨q1, q2, q3, q4, q5⟩ := bhd_in hT hv.1 hv.2.1
  have hv0 := hv.1
  have := sX4_take_gen (a := bhd T n s) (g := nxG T n s g) hT b μ h2 h3 hf t8 (by omega) q2 (by unfold nxG nxS; rw [t4]) d hd
  refine cal_mono this (fun v μ' ⟨f, t⟩ => ⟨fj_sub f (by decide), ?_, ?_, ?_, ?_, t, (nx_in hT hv).1⟩)
  · rw [f.1 2 (by decide)]; exact h2
  · rw [f.1 3 (by decide)]; exact h3
  · rw [f.2 2 (by decide)]; exact hf
  · rw [f.2 3 (by decide)]; exact hp
theorem sX4_take_dead {T : Int → Int} {n : Int} {e : Int × Int} (b : Bool) (μ : Nat → Int → Int) (h : CDd T n μ e) : ∀ d, 1 ≤ d → mCallN d 174 [mP 1] (SH, μ, RHO b) = some (0, SH, μ, RHO b) := deep fun d _ => by
  obtain ⟨h2, h3, hf, he, -⟩ := h
  exact cal_eq (cal_ev (fun r => call_X4_take d b μ) (ev_row (fun m => tX4_take_0 _ m b μ) (ev_neg (by rw [hf]; exact he) (ev_ret ⟨rfl, rfl⟩))))
theorem sX4_fail {T : Int → Int} {n s : Int} {g : Bool} (k p : Int) (hk : k ≠ 0) (b : Bool) (μ : Nat → Int → Int) (h : CLv T n μ s g) : ∀ d, 1 ≤ d → Cal d 160 [mP 1, mI k, mI p] b μ (fun _ μ' => Fj rdJ μ μ' ∧ CDd T n μ' (k, p)) := deepC fun d _ => by
  obtain ⟨h2, h3, hf, hp, -⟩ := h
  refine cal_ev (fun r => call_X4_fail d b μ k p) (ev_row (fun m => tX4_fail_0 _ m b μ k p) (ev_pos hf (ev_row (fun m => tX4_fail_17 _ m b _ k p) (ev_ret ⟨fj_m2 (fj_m2 (fj_m2 (fj_m2 (fj_m2 fj_rfl (by decide)) (by decide)) (by decide)) (by decide)) (by decide), ?_⟩))))
  refine ⟨?_, ?_, ?_, hk, ?_, ?_, ?_, ?_⟩
  · rw [m2_ne (by decide), m2_ne (by decide), m2_ne (by decide), m2_ne (by decide), m2_ne (by decide)]; exact h2
  · rw [m2_ne (by decide), m2_ne (by decide), m2_ne (by decide), m2_ne (by decide), m2_ne (by decide)]; exact h3
  · rw [m2_at, if_neg (by decide), m2_at, if_neg (by decide), m2_at, if_neg (by decide), m2_at, if_neg (by decide), m2_at, if_pos rfl]
  · rw [m2_at, if_neg (by decide), m2_at, if_neg (by decide), m2_at, if_neg (by decide), m2_at, if_pos rfl]
  · rw [m2_at, if_neg (by decide), m2_at, if_neg (by decide), m2_at, if_pos rfl]
  · rw [m2_at, if_neg (by decide), m2_at, if_pos rfl]
  · rw [m2_at, if_pos rfl]
theorem sX4_fail_dead {T : Int → Int} {n : Int} {e : Int × Int} (k p : Int) (b : Bool) (μ : Nat → Int → Int) (h : CDd T n μ e) : ∀ d, 1 ≤ d → Cal d 160 [mP 1, mI k, mI p] b μ (fun _ μ' => Fj rdJ μ μ' ∧ CDd T n μ' e) := deepC fun d _ => by
  obtain ⟨h2, h3, hf, he, h13, h14, h15, h16⟩ := h
  refine cal_ev (fun r => call_X4_fail d b μ k p) (ev_row (fun m => tX4_fail_0 _ m b μ k p) (ev_neg (by rw [hf]; exact he) (ev_row (fun m => tX4_fail_17 _ m b _ k p) (ev_ret ⟨fj_m2 (fj_m2 (fj_m2 fj_rfl (by decide)) (by decide)) (by decide), ?_⟩))))
  refine ⟨?_, ?_, ?_, he, ?_, ?_, ?_, ?_⟩
  · rw [m2_ne (by decide), m2_ne (by decide), m2_ne (by decide)]; exact h2
  · rw [m2_ne (by decide), m2_ne (by decide), m2_ne (by decide)]; exact h3
  · rw [m2_at, if_neg (by decide), m2_at, if_neg (by decide), m2_at, if_neg (by decide)]; exact hf
  · rw [m2_at, if_neg (by decide), m2_at, if_neg (by decide), m2_at, if_neg (by decide)]; exact h13
  · rw [m2_at, if_neg (by decide), m2_at, if_neg (by decide), m2_at, if_pos rfl]
  · rw [m2_at, if_neg (by decide), m2_at, if_pos rfl]
  · rw [m2_at, if_pos rfl]
