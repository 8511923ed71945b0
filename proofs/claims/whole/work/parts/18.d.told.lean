/-! ===== the reference reckons ===== -/
theorem lc_gt {x y : Int} : (0 < (if x < y then (-1 : Int) else if x = y then 0 else 1)) ↔ y < x := by
  (repeat' split) <;> omega
theorem lc_lt {x y : Int} : ((if x < y then (-1 : Int) else if x = y then 0 else 1) < 0) ↔ x < y := by
  (repeat' split) <;> omega
theorem lc_eq {x y : Int} : ((if x < y then (-1 : Int) else if x = y then 0 else 1) = 0) ↔ x = y := by
  (repeat' split) <;> omega
/-- nothing but these cells, and of the reference itself these fields, has changed -/
def Fg (L : List Nat) (J : List Int) (μ μ' : Nat → Int → Int) : Prop := (∀ a, a ∉ L → a ≠ 96 → μ' a = μ a) ∧ ∀ j, j ∉ J → μ' 96 j = μ 96 j
theorem fg_rfl {L : List Nat} {J : List Int} {μ : Nat → Int → Int} : Fg L J μ μ := ⟨fun _ _ _ => rfl, fun _ _ => rfl⟩
theorem fg_m2 {L : List Nat} {J : List Int} {μ μ' : Nat → Int → Int} {a : Nat} {i v : Int} (h : Fg L J μ μ') (ha : a ∈ L) (ha2 : a ≠ 96) : Fg L J μ (m2 μ' a i v) := ⟨fun c hc h9 => by rw [m2_ne (fun e => hc (by rw [e]; exact ha)), h.1 c hc h9], fun j hj => by rw [m2_ne (fun e => ha2 e.symm), h.2 j hj]⟩
theorem fg_m96 {L : List Nat} {J : List Int} {μ μ' : Nat → Int → Int} {i v : Int} (h : Fg L J μ μ') (ha : i ∈ J) : Fg L J μ (m2 μ' 96 i v) := ⟨fun c hc h9 => by rw [m2_ne h9, h.1 c hc h9], fun j hj => by rw [m2_at, if_neg (fun e => hj (by rw [e]; exact ha)), h.2 j hj]⟩
theorem fg_tr {L K : List Nat} {J I : List Int} {μ μ' μ2 : Nat → Int → Int} (h : Fg L J μ μ') (h2 : Fg K I μ' μ2) (hs : ∀ a, a ∈ K → a ∈ L) (hs2 : ∀ a, a ∈ I → a ∈ J) : Fg L J μ μ2 := ⟨fun c hc h9 => by rw [h2.1 c (fun e => hc (hs c e)) h9, h.1 c hc h9], fun j hj => by rw [h2.2 j (fun e => hj (hs2 j e)), h.2 j hj]⟩
theorem fg_fr {L : List Nat} {J : List Int} {μ μ' : Nat → Int → Int} (h : Fr L μ μ') (h9 : 96 ∉ L) : Fg L J μ μ' := ⟨fun c hc _ => h c hc, fun j _ => by rw [h 96 h9]⟩
theorem sX10_puts (v : Int) (b : Bool) (μ : Nat → Int → Int) (h0 : 0 ≤ μ 96 50) (h1 : μ 96 50 < 1700) : ∀ d, 1 ≤ d → mCallN d 106 [mP 96, mJ v] (SH, μ, RHO b) = some (0, SH, m2 (m2 μ 131 (μ 96 50) v) 96 50 (μ 96 50 + 1), RHO b) := deep fun d _ => by
  refine call_X10_puts d b μ v ⟨1, ?_⟩
  rw [tX10_puts_0, if_pos ⟨h0, h1⟩, m2_ne (by decide : (96 : Nat) ≠ 131), w32_id (by omega) (by omega)]
theorem sX10_clip (v : Int) (b : Bool) (μ : Nat → Int → Int) : ∀ d, 1 ≤ d → mCallN d 23 [mJ v] (SH, μ, RHO b) = some (clipI v, SH, μ, RHO b) := deep fun d _ => by
  refine call_X10_clip d b μ v ⟨2, ?_⟩
  unfold clipI
  by_cases e : 1000000 < v
  · rw [tX10_clip_0, mBr_pos (lc_gt.2 e), tX10_clip_29, if_pos e]
  · rw [tX10_clip_0, mBr_neg (fun h => e (lc_gt.1 h)), if_neg e]
    by_cases e2 : v < -1000000
    · rw [mBr_pos (lc_lt.2 e2), tX10_clip_29, if_pos e2]
    · rw [mBr_neg (fun h => e2 (lc_lt.1 h)), tX10_clip_29, if_neg e2]
theorem sX10_floor (x y : Int) (b : Bool) (μ : Nat → Int → Int) (h1 : -1000000 ≤ x) (h2 : x ≤ 1000000) (h3 : -1000000 ≤ y) (h4 : y ≤ 1000000) : ∀ d, 1 ≤ d → mCallN d 42 [mJ x, mJ y] (SH, μ, RHO b) = some (flo x y, SH, μ, RHO b) := deep fun d _ => by
  refine call_X10_floor d b μ x y ⟨5, ?_⟩
  unfold flo
  by_cases e : y = 0
  · rw [tX10_floor_0, mBr_pos (lc_eq.2 e), if_pos e]
  · have e1 : lDiv x y = x.tdiv y := lDiv_t (by omega) (by omega) (by omega) (by omega)
    have e2 : lRem x y = x.tmod y := lRem_t (by omega) (by omega) (by omega) (by omega) (tmod_in x y)
    have hin := tdiv_in x y
    have e3 : w64 (x.tdiv y - 1) = x.tdiv y - 1 := w64_id (by omega) (by omega)
    rw [tX10_floor_0, mBr_neg (fun h => e (lc_eq.1 h)), if_neg e, if_neg e, if_neg e, e1, e2]
    by_cases a1 : x.tmod y = 0
    · rw [mBr_pos (lc_eq.2 a1), tX10_floor_53, tX10_floor_55, if_neg (fun h => h.1 a1)]
    · rw [mBr_neg (fun h => a1 (lc_eq.1 h))]
      by_cases a2 : x < 0
      · rw [mBr_pos (lc_lt.2 a2), tX10_floor_32]
        by_cases a3 : y < 0
        · rw [mBr_pos (lc_lt.2 a3), tX10_floor_43, mBr_pos rfl, tX10_floor_53, tX10_floor_55, if_neg (fun h => h.2 (by omega))]
        · rw [mBr_neg (fun h => a3 (lc_lt.1 h)), tX10_floor_43, mBr_neg (by decide), tX10_floor_55, if_pos ⟨a1, by omega⟩, e3]
      · rw [mBr_neg (fun h => a2 (lc_lt.1 h)), tX10_floor_32]
        by_cases a3 : y < 0
        · rw [mBr_pos (lc_lt.2 a3), tX10_floor_43, mBr_neg (by decide), tX10_floor_55, if_pos ⟨a1, by omega⟩, e3]
        · rw [mBr_neg (fun h => a3 (lc_lt.1 h)), tX10_floor_43, mBr_pos rfl, tX10_floor_53, tX10_floor_55, if_neg (fun h => h.2 (by omega))]
def muJoin (μ : Nat → Int → Int) (h v : Int) : Nat → Int → Int := m2 (m2 (m2 μ 96 50 h) 131 h v) 96 50 (h + 1)
theorem sX10_joins (y a c h : Int) (b : Bool) (μ : Nat → Int → Int) (hy : ((y = 15 ∨ y = 16) ∧ vK true a ∧ vK true c) ∨ (((1 ≤ y ∧ y ≤ 6) ∨ (12 ≤ y ∧ y ≤ 14)) ∧ vK false a ∧ vK false c)) (h0 : 0 ≤ h) (h1 : h < 1600) (hp : μ 96 50 = h + 2) (ha : μ 131 h = a) (hc : μ 131 (h + 1) = c) : ∀ d, 2 ≤ d → mCallN d 76 [mP 96, mI y] (SH, μ, RHO b) = some (0, SH, muJoin μ h (opf y a c), RHO b) := deep fun d hd => by
  refine call_X10_joins d b μ y ⟨3, ?_⟩
  have e1 : w32 (h + 2 - 1) = h + 1 := by rw [w32_id (by omega) (by omega)]; omega
  have e2 : w32 (h + 2 - 2) = h := by rw [w32_id (by omega) (by omega)]; omega
  have hP : ∀ v, mCallN d 106 [mP 96, mJ v] (SH, m2 μ 96 50 h, RHO b) = some (0, SH, muJoin μ h v, RHO b) := fun v => by
    have := sX10_puts v b (m2 μ 96 50 h) (by rw [m2_at, if_pos rfl]; exact h0) (by rw [m2_at, if_pos rfl]; omega) d (by omega)
    rw [m2_at, if_pos rfl] at this
    exact this
  have end' : ∀ (n : Nat) (v y2 y4 : Int), mRun (mCallN d) kX10_joins (n + 1) 293 [some (mP 96), some (mI y), some (mJ y2), none, some (mJ y4), none] [] (SH, muJoin μ h v, RHO b) = some (0, SH, muJoin μ h v, RHO b) := fun n v y2 y4 => tX10_joins_293 _ n b _ y y2 y4
  rw [tX10_joins_0, hp, e1, e2, ha, hc, if_pos (by omega), if_pos (by omega)]
  rcases hy with ⟨h9, ha, hc⟩ | ⟨h9, ha, hc⟩
  · have ha' : a = 0 ∨ a = 1 := ha
    have hc' : c = 0 ∨ c = 1 := hc
    rcases h9 with e | e <;> subst e
    · have hm : w64 (a * c) = a * c := by rcases ha' with h | h <;> rcases hc' with h' | h' <;> rw [h, h'] <;> decide +kernel
      rw [if_neg (by decide), if_neg (by decide), if_neg (by decide), if_neg (by decide), if_neg (by decide), if_neg (by decide), if_neg (by decide), if_neg (by decide), if_neg (by decide), if_neg (by decide), if_neg (by decide), if_neg (by decide), if_neg (by decide), if_neg (by decide), if_pos rfl, hP, mOptR_some, hm, opf_15]
      exact end' 1 _ _ _
    · have hm : w64 (a + c) = a + c := w64_id (by omega) (by omega)
      rw [if_neg (by decide), if_neg (by decide), if_neg (by decide), if_neg (by decide), if_neg (by decide), if_neg (by decide), if_neg (by decide), if_neg (by decide), if_neg (by decide), if_neg (by decide), if_neg (by decide), if_neg (by decide), if_neg (by decide), if_neg (by decide), if_neg (by decide), hm, opf_16]
      by_cases q : 0 < a + c
      · rw [mBr_pos (lc_gt.2 q), tX10_joins_290, hP, mOptR_some, t01_pos q]; exact end' 0 _ _ _
      · rw [mBr_neg (fun h => q (lc_gt.1 h)), tX10_joins_290, hP, mOptR_some, t01_neg q]; exact end' 0 _ _ _
  · have ha' : -1000000 ≤ a ∧ a ≤ 1000000 := ha
    have hc' : -1000000 ≤ c ∧ c ≤ 1000000 := hc
    have hm := mul_in ha'.1 ha'.2 hc'.1 hc'.2
    have w1 : w64 (a + c) = a + c := w64_id (by omega) (by omega)
    have w2 : w64 (a - c) = a - c := w64_id (by omega) (by omega)
    have w3 : w64 (a * c) = a * c := w64_id (by omega) (by omega)
    have hC := fun v => sX10_clip v b (m2 μ 96 50 h) d (by omega)
    have hF := sX10_floor a c b (m2 μ 96 50 h) ha'.1 ha'.2 hc'.1 hc'.2 d (by omega)
    have hy : y = 1 ∨ y = 2 ∨ y = 3 ∨ y = 4 ∨ y = 5 ∨ y = 6 ∨ y = 12 ∨ y = 13 ∨ y = 14 := by omega
    rcases hy with e | e | e | e | e | e | e | e | e <;> subst e
    · rw [if_pos rfl, w1, hC, mOptR_some, hP, mOptR_some, opf_1]; exact end' 1 _ _ _
    · rw [if_neg (by decide), if_pos rfl, w2, hC, mOptR_some, hP, mOptR_some, opf_2]; exact end' 1 _ _ _
    · rw [if_neg (by decide), if_neg (by decide), if_pos rfl, w3, hC, mOptR_some, hP, mOptR_some, opf_3]; exact end' 1 _ _ _
    · rw [if_neg (by decide), if_neg (by decide), if_neg (by decide), if_pos rfl, hF, mOptR_some, hP, mOptR_some, opf_4]; exact end' 1 _ _ _
    · rw [if_neg (by decide), if_neg (by decide), if_neg (by decide), if_neg (by decide), if_pos rfl, opf_5]
      by_cases q : a < c
      · rw [mBr_pos (lc_lt.2 q), tX10_joins_181, hP, mOptR_some, if_neg (by omega)]; exact end' 0 _ _ _
      · rw [mBr_neg (fun h => q (lc_lt.1 h)), tX10_joins_181, hP, mOptR_some, show (if c < a then c else a) = c from by split <;> omega]; exact end' 0 _ _ _
    · rw [if_neg (by decide), if_neg (by decide), if_neg (by decide), if_neg (by decide), if_neg (by decide), if_pos rfl, opf_6]
      by_cases q : c < a
      · rw [mBr_pos (lc_gt.2 q), tX10_joins_201, hP, mOptR_some, if_neg (by omega)]; exact end' 0 _ _ _
      · rw [mBr_neg (fun h => q (lc_gt.1 h)), tX10_joins_201, hP, mOptR_some, show (if a < c then c else a) = c from by split <;> omega]; exact end' 0 _ _ _
    · rw [if_neg (by decide), if_neg (by decide), if_neg (by decide), if_neg (by decide), if_neg (by decide), if_neg (by decide), if_neg (by decide), if_neg (by decide), if_neg (by decide), if_neg (by decide), if_neg (by decide), if_pos rfl, opf_12]
      by_cases q : a < c
      · rw [mBr_pos (lc_lt.2 q), tX10_joins_220, hP, mOptR_some, t01_pos q]; exact end' 0 _ _ _
      · rw [mBr_neg (fun h => q (lc_lt.1 h)), tX10_joins_220, hP, mOptR_some, t01_neg q]; exact end' 0 _ _ _
    · rw [if_neg (by decide), if_neg (by decide), if_neg (by decide), if_neg (by decide), if_neg (by decide), if_neg (by decide), if_neg (by decide), if_neg (by decide), if_neg (by decide), if_neg (by decide), if_neg (by decide), if_neg (by decide), if_pos rfl, opf_13]
      by_cases q : c < a
      · rw [mBr_pos (lc_gt.2 q), tX10_joins_239, hP, mOptR_some, t01_pos q]; exact end' 0 _ _ _
      · rw [mBr_neg (fun h => q (lc_gt.1 h)), tX10_joins_239, hP, mOptR_some, t01_neg q]; exact end' 0 _ _ _
    · rw [if_neg (by decide), if_neg (by decide), if_neg (by decide), if_neg (by decide), if_neg (by decide), if_neg (by decide), if_neg (by decide), if_neg (by decide), if_neg (by decide), if_neg (by decide), if_neg (by decide), if_neg (by decide), if_neg (by decide), if_pos rfl, opf_14]
      by_cases q : a = c
      · rw [mBr_pos (lc_eq.2 q), tX10_joins_258, hP, mOptR_some, t01_pos q]; exact end' 0 _ _ _
      · rw [mBr_neg (fun h => q (lc_eq.1 h)), tX10_joins_258, hP, mOptR_some, t01_neg q]; exact end' 0 _ _ _
theorem eX10_told {d : Nat} (hd : 2 ≤ d) {b : Bool} {ask y : Int → Int} {μ0 : Nat → Int → Int} {fr to : Int} {t : Bool} (hto : to ≤ 1600) (ha : ∀ j, 0 ≤ j → j < 5 → 0 ≤ ask j ∧ ask j ≤ 1000) (hf : ∀ j, 0 ≤ j → j < 5 → μ0 132 j = ask j) : ∀ (k : Nat) (i : Int) (ts : List Bool) (vs : List Int) (v4 : Option mV) (μ : Nat → Int → Int), 0 ≤ i → i + k = to → (∀ j, i ≤ j → j < to → μ0 126 (1600 + j) = y j) → Fg [131] [50] μ0 μ → Sto (μ 131) vs → μ 96 50 = vs.length → vOk ts vs → ts.length ≤ 64 → TyR y k i ts [t] →
    Ev (fun n => mRun (mCallN d) kX10_told n 7 [some (mP 96), some (mI fr), some (mI to), some (mI i), v4] [] (SH, μ, RHO b)) b (fun v μ' => Fg [131] [50] μ0 μ' ∧ evR ask y k i vs = [v] ∧ vK t v) := by
  intro k
  induction k with
  | zero =>
    intro i ts vs v4 μ h0 hk hc hfr hst hp hv hl ht
    have ht' : ts = [t] := ht
    subst ht'
    obtain ⟨v, r, e, hv1, hv2⟩ := vOk_cons hv
    subst e
    have hr : r = [] := by
      cases r with
      | nil => rfl
      | cons a b => exact absurd hv2 (by simp [vOk])
    subst hr
    refine ev_row (fun n => tX10_told_7 _ n b μ fr to i v4) (ev_neg (by omega) (ev_ret ⟨hfr, ?_, ?_⟩))
    · rw [evR]; rw [show μ 131 0 = v from hst.1]
    · rw [show μ 131 0 = v from hst.1]; exact hv1
  | succ k ih =>
    intro i ts vs v4 μ h0 hk hc hfr hst hp hv hl ht
    obtain ⟨t1, ht1, ht2⟩ := ht
    have hlen := vOk_len hv
    have hx : μ 126 (1600 + i) = y i := by
      rw [hfr.1 126 (by decide) (by decide)]; exact hc i (by omega) (by omega)
    have e1 : w32 (i + 1) = i + 1 := w32_id (by omega) (by omega)
    have e0 : w32 (1600 + i) = 1600 + i := w32_id (by omega) (by omega)
    refine ev_row (fun n => tX10_told_7 _ n b μ fr to i v4) (ev_pos (by omega) ?_)
    rw [e0, hx]
    refine ev_if (by omega) ?_
    have key : ∀ (vs' : List Int) (μ' : Nat → Int → Int), vs' = evS ask vs (y i) → Fg [131] [50] μ0 μ' → Sto (μ' 131) vs' → μ' 96 50 = vs'.length → t1.length ≤ 64 → Ev (fun n => mRun (mCallN d) kX10_told n 134 [some (mP 96), some (mI fr), some (mI to), some (mI i), some (mI (y i))] [] (SH, μ', RHO b)) b (fun v μ' => Fg [131] [50] μ0 μ' ∧ evR ask y (k + 1) i vs = [v] ∧ vK t v) := fun vs' μ' e hfr' hst' hp' hl' => by
      refine ev_row (fun n => tX10_told_134 _ n b μ' fr to i _) ?_
      rw [e1, evR, ← e]
      refine ih (i + 1) t1 vs' _ μ' (by omega) (by omega) (fun j h1 h2 => hc j (by omega) h2) hfr' hst' hp' ?_ hl' ht2
      rw [e]; exact evS_ok ha hv ht1
    have push : ∀ v : Int, v :: vs = evS ask vs (y i) → vs.length < 64 → t1.length ≤ 64 → mCallN d 106 [mP 96, mJ v] (SH, μ, RHO b) = some (0, SH, m2 (m2 μ 131 (μ 96 50) v) 96 50 (μ 96 50 + 1), RHO b) ∧ Ev (fun n => mRun (mCallN d) kX10_told n 134 [some (mP 96), some (mI fr), some (mI to), some (mI i), some (mI (y i))] [] (SH, m2 (m2 μ 131 (μ 96 50) v) 96 50 (μ 96 50 + 1), RHO b)) b (fun v μ' => Fg [131] [50] μ0 μ' ∧ evR ask y (k + 1) i vs = [v] ∧ vK t v) := fun v e h1 h2 => by
      refine ⟨sX10_puts v b μ (by omega) (by omega) d (by omega), ?_⟩
      refine key (v :: vs) _ e (fg_m96 (fg_m2 hfr (by decide) (by decide)) (by decide)) ?_ ?_ h2
      · rw [m2_ne (by decide : (131 : Nat) ≠ 96), m2_uPd, hp]; exact Sto_push hst
      · rw [m2_at, if_pos rfl, hp, List.length_cons]; rfl
    rcases ht1 with ⟨h, hlt, h3⟩ | ⟨h, hlt, h3⟩ | ⟨h, h3, r, h4⟩ | ⟨h, r, h3, h4⟩ | ⟨r, h3, h4⟩
    · have hes := evS_push (ask := ask) (vs := vs) h
      by_cases e : 1000 ≤ y i
      · rw [if_pos e] at hes
        obtain ⟨p1, p2⟩ := push (y i - 1000) hes.symm (by omega) (by rw [h3, List.length_cons]; omega)
        rw [w32_id (x := y i - 1000) (by omega) (by omega)]
        exact ev_neg (by omega) (ev_call p1 p2)
      · rw [if_neg e] at hes
        have hr : 7 ≤ y i ∧ y i ≤ 11 := by omega
        have e3 : w32 (y i - 7) = y i - 7 := w32_id (by omega) (by omega)
        obtain ⟨p1, p2⟩ := push (ask (y i - 7)) hes.symm (by omega) (by rw [h3, List.length_cons]; omega)
        have hI := sX10_isIn (y i) 7 11 b μ d (by omega)
        rw [t01_pos hr] at hI
        refine ev_pos (by omega) (ev_neg (by omega) (ev_neg (by omega) (ev_call hI (ev_neg (by show ¬ ((1 : Int) = 0); decide) (ev_if (by rw [e3]; omega) ?_)))))
        dsimp only
        rw [e3, show μ 132 (y i - 7) = ask (y i - 7) from by rw [hfr.1 132 (by decide) (by decide)]; exact hf _ (by omega) (by omega)]
        exact ev_call p1 p2
    · obtain ⟨p1, p2⟩ := push 1 (by rw [h, evS_all]) (by omega) (by rw [h3, List.length_cons]; omega)
      exact ev_pos (by omega) (ev_pos h (ev_call p1 p2))
    · subst h4
      obtain ⟨v, r', e, hv1, hv2⟩ := vOk_cons hv
      subst e
      have hv' : v = 0 ∨ v = 1 := hv1
      simp only [List.length_cons] at hlen hl
      have hp2 : μ 96 50 = (r'.length : Int) + 1 := by rw [hp, List.length_cons]; omega
      have e3 : w32 ((r'.length : Int) + 1 - 1) = r'.length := by rw [w32_id (by omega) (by omega)]; omega
      have hst1 : μ 131 r'.length = v := hst.1
      have e4 : w64 (1 - v) = 1 - v := w64_id (by omega) (by omega)
      refine ev_pos (by omega) (ev_neg (by omega) (ev_pos h ?_))
      rw [hp2, e3, hst1, e4]
      refine ev_if (by omega) (ev_if (by omega) ?_)
      refine key ((1 - v) :: r') (m2 μ 131 r'.length (1 - v)) (by rw [h, evS_not]) (fg_m2 hfr (by decide) (by decide)) (by rw [m2_uPd]; exact Sto_push hst.2) (by rw [m2_ne (by decide : (96 : Nat) ≠ 131), hp2, List.length_cons]; omega) (by rw [h3, List.length_cons]; omega)
    · have hyy : y i ≠ 18 ∧ y i ≠ 17 ∧ y i < 1000 ∧ ¬ (7 ≤ y i ∧ y i ≤ 11) := by omega
      subst h3
      obtain ⟨v, r1, e, hv1, hv2⟩ := vOk_cons hv
      obtain ⟨u, r2, e2, hv3, hv4⟩ := vOk_cons hv2
      subst e2; subst e
      simp only [List.length_cons] at hlen hl
      have hp2 : μ 96 50 = (r2.length : Int) + 2 := by rw [hp, List.length_cons, List.length_cons]; omega
      have hJ := sX10_joins (y i) u v r2.length b μ (Or.inl ⟨h, hv3, hv1⟩) (by omega) (by omega) hp2 hst.2.1 hst.1 d hd
      have hI := sX10_isIn (y i) 7 11 b μ d (by omega)
      rw [t01_neg hyy.2.2.2] at hI
      refine ev_pos hyy.2.2.1 (ev_neg hyy.1 (ev_neg hyy.2.1 (ev_call hI (ev_pos rfl (ev_call hJ ?_)))))
      refine key (opf (y i) u v :: r2) (muJoin μ r2.length (opf (y i) u v)) (by rw [evS_bin (by omega)]) (fg_m96 (fg_m2 (fg_m96 hfr (by decide)) (by decide) (by decide)) (by decide)) ?_ ?_ (by rw [h4, List.length_cons]; omega)
      · unfold muJoin
        rw [m2_ne (by decide : (131 : Nat) ≠ 96), m2_uPd, m2_ne (by decide : (131 : Nat) ≠ 96)]; exact Sto_push hst.2.2
      · unfold muJoin
        rw [m2_at, if_pos rfl, List.length_cons]; rfl
    · have hyy : y i ≠ 18 ∧ y i ≠ 17 ∧ y i < 1000 ∧ ¬ (7 ≤ y i ∧ y i ≤ 11) := by rcases h4 with h4 | h4 <;> omega
      have hyz : (1 ≤ y i ∧ y i ≤ 6) ∨ (12 ≤ y i ∧ y i ≤ 14) := by rcases h4 with h4 | h4 <;> omega
      subst h3
      obtain ⟨v, r1, e, hv1, hv2⟩ := vOk_cons hv
      obtain ⟨u, r2, e2, hv3, hv4⟩ := vOk_cons hv2
      subst e2; subst e
      simp only [List.length_cons] at hlen hl
      have ht1 : t1.length ≤ 64 := by rcases h4 with h4 | h4 <;> (rw [h4.2.2, List.length_cons]; omega)
      have hp2 : μ 96 50 = (r2.length : Int) + 2 := by rw [hp, List.length_cons, List.length_cons]; omega
      have hJ := sX10_joins (y i) u v r2.length b μ (Or.inr ⟨hyz, hv3, hv1⟩) (by omega) (by omega) hp2 hst.2.1 hst.1 d hd
      have hI := sX10_isIn (y i) 7 11 b μ d (by omega)
      rw [t01_neg hyy.2.2.2] at hI
      refine ev_pos hyy.2.2.1 (ev_neg hyy.1 (ev_neg hyy.2.1 (ev_call hI (ev_pos rfl (ev_call hJ ?_)))))
      refine key (opf (y i) u v :: r2) (muJoin μ r2.length (opf (y i) u v)) (by rw [evS_bin (by omega)]) (fg_m96 (fg_m2 (fg_m96 hfr (by decide)) (by decide) (by decide)) (by decide)) ?_ ?_ ht1
      · unfold muJoin
        rw [m2_ne (by decide : (131 : Nat) ≠ 96), m2_uPd, m2_ne (by decide : (131 : Nat) ≠ 96)]; exact Sto_push hst.2.2
      · unfold muJoin
        rw [m2_at, if_pos rfl, List.length_cons]; rfl
theorem sX10_told (fr : Int) (k : Nat) (ask y : Int → Int) (t : Bool) (b : Bool) (μ : Nat → Int → Int) (h0 : 0 ≤ fr) (hto : fr + k ≤ 1600) (ha : ∀ j, 0 ≤ j → j < 5 → 0 ≤ ask j ∧ ask j ≤ 1000) (hf : ∀ j, 0 ≤ j → j < 5 → μ 132 j = ask j) (hc : ∀ j, fr ≤ j → j < fr + k → μ 126 (1600 + j) = y j) (ht : TyR y k fr [] [t]) : ∀ d, 3 ≤ d → Cal d 127 [mP 96, mI fr, mI (fr + k)] b μ (fun v μ' => Fg [131] [50] μ μ' ∧ evR ask y k fr [] = [v] ∧ vK t v) := deepC fun d hd => by
  refine cal_ev (fun r => call_X10_told d b μ fr (fr + k)) ?_
  refine ev_row (fun n => tX10_told_0 _ n b μ fr (fr + k)) ?_
  refine ev_mono (eX10_told hd (μ0 := m2 μ 96 50 0) hto ha ?_ k fr [] [] none _ h0 rfl ?_ fg_rfl trivial (by rw [m2_at, if_pos rfl]; rfl) trivial (by decide) ht) (fun v μ' h => ⟨fg_tr (fg_m96 fg_rfl (by decide)) h.1 (fun a h => h) (fun a h => h), h.2⟩)
  · rw [m2_ne (by decide : (132 : Nat) ≠ 96)]; exact hf
  · rw [m2_ne (by decide : (126 : Nat) ≠ 96)]; exact hc
