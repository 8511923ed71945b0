/-! ===== town: names told, in the reference ===== -/
def rk (k : Nat) : Int := if k = 3 then 2 else (k : Int)
theorem rk_in {k : Nat} (hk : k < 4) (k2 : k ≠ 2) : 0 ≤ rk k ∧ rk k ≤ 2 := by
  unfold rk; split <;> omega
def RNm (ν : Nat → Int → Int) (N : Nat → List (List Int)) : Prop := ∀ k : Nat, k < 4 → k ≠ 2 → ν 120 (rk k) = ((N k).length : Int) ∧ ∀ i : Nat, i < (N k).length → ν 121 (12 * rk k + (i : Int)) = pk27 0 ((N k).getD i [])
theorem RNm_sm {ν ν' : Nat → Int → Int} {N : Nat → List (List Int)} (h1 : ν' 120 = ν 120) (h2 : ν' 121 = ν 121) (h : RNm ν N) : RNm ν' N := fun k hk k2 => by
  rw [h1, h2]; exact h k hk k2
theorem sX10_nameOf (k x : Int) (b : Bool) (ν : Nat → Int → Int) (h0 : 0 ≤ k) (h1 : k ≤ 2) (c0 : 0 ≤ ν 120 k) (c1 : ν 120 k ≤ 12) : ∀ d, 1 ≤ d → mCallN d 88 [mP 96, mI k, mJ x] (SH, ν, RHO b) = some (fFirst (fun i => ν 121 (12 * k + i)) x (ν 120 k).toNat 0, SH, ν, RHO b) := deep fun d _ => by
  have lp : ∀ (r : Nat) (i : Int), 0 ≤ i → i + r = ν 120 k → Ev (fun m => mRun (mCallN d) kX10_nameOf m 3 [some (mP 96), some (mI k), some (mJ x), none, some (mI i)] [] (SH, ν, RHO b)) b (fun v ν' => v = fFirst (fun i => ν 121 (12 * k + i)) x r i ∧ ν' = ν) := by
    intro r
    induction r with
    | zero =>
      intro i i0 hi
      exact ev_row (fun m => tX10_nameOf_3 _ m b ν _ _ _) (ev_if (by omega) (ev_neg (by omega) (ev_ret ⟨rfl, rfl⟩)))
    | succ r ih =>
      intro i i0 hi
      refine ev_row (fun m => tX10_nameOf_3 _ m b ν _ _ _) (ev_if (by omega) (ev_pos (by omega) ?_))
      have hw : w32 (w32 (12 * k) + i) = 12 * k + i := by rw [show w32 (12 * k) = 12 * k from w32_id (by omega) (by omega)]; exact w32_id (by omega) (by omega)
      have hw2 : w32 (i + 1) = i + 1 := w32_id (by omega) (by omega)
      rw [hw, hw2]
      refine ev_if (by omega) ?_
      by_cases e : ν 121 (12 * k + i) = x
      · exact ev_pos (by rw [if_neg (by omega), if_pos e]) (ev_ret ⟨by rw [fFirst, if_pos e], rfl⟩)
      · have E : fFirst (fun i => ν 121 (12 * k + i)) x (r + 1) i = fFirst (fun i => ν 121 (12 * k + i)) x r (i + 1) := by rw [fFirst, if_neg e]
        rw [E]
        refine ev_neg (fun q => ?_) (ih (i + 1) (by omega) (by omega))
        by_cases e2 : ν 121 (12 * k + i) < x
        · rw [if_pos e2] at q; omega
        · rw [if_neg e2, if_neg e] at q; omega
  refine cal_eq (cal_ev (fun r => call_X10_nameOf d b ν k x) (ev_row (fun m => tX10_nameOf_0 _ m b ν k x) ?_))
  exact lp _ 0 (Int.le_refl _) (by omega)
theorem rnm_num {b : Bool} {ν : Nat → Int → Int} {N : Nat → List (List Int)} (h : RNm ν N) (hN : NOk N) {k : Nat} (hk : k < 4) (h2 : k ≠ 2) {w : List Int} (hw : gdN w) : ∀ d, 1 ≤ d → mCallN d 88 [mP 96, mI (rk k), mJ (pk27 0 w)] (SH, ν, RHO b) = some (ixN (N k) w, SH, ν, RHO b) := fun d hd => by
  obtain ⟨h1, h3⟩ := h k hk h2
  obtain ⟨n1, n2⟩ := hN k hk h2
  have hr := rk_in hk h2
  rw [sX10_nameOf (rk k) (pk27 0 w) b ν hr.1 hr.2 (by omega) (by omega) d hd, h1, Int.toNat_natCast]
  unfold ixN
  rw [fFirst_eq (g := fun i => if (N k).getD i.toNat [] = w then 1 else 0) (y := 1) (N k).length 0 (fun j j0 j1 => ?_)]
  obtain ⟨i, rfl⟩ : ∃ i : Nat, j = (i : Int) := ⟨j.toNat, by omega⟩
  rw [h3 i (by omega), Int.toNat_natCast]
  have hg := n2 _ (getD_memN (by omega : i < (N k).length))
  refine ⟨fun e => by rw [if_pos (pk27_inj hg.2.2 hw.2.2 e)], fun e => ?_⟩
  by_cases q : (N k).getD i [] = w
  · rw [q]
  · rw [if_neg q] at e; omega
theorem rnm_any {b : Bool} {ν : Nat → Int → Int} {N : Nat → List (List Int)} (h : RNm ν N) (hN : NOk N) {k : Nat} (hk : k < 4) (h2 : k ≠ 2) (x : Int) : ∃ v, ∀ d, 1 ≤ d → mCallN d 88 [mP 96, mI (rk k), mJ x] (SH, ν, RHO b) = some (v, SH, ν, RHO b) := by
  obtain ⟨h1, h3⟩ := h k hk h2
  obtain ⟨n1, n2⟩ := hN k hk h2
  have hr := rk_in hk h2
  exact ⟨_, fun d hd => sX10_nameOf (rk k) x b ν hr.1 hr.2 (by omega) (by omega) d hd⟩
theorem naE_no {T : Int → Int} {n s : Int} {g : Bool} {e : Int × Int} (h : naE T n s g e) : ¬ nmO T n s g := fun q => by
  rcases h with ⟨h, -⟩ | ⟨-, h, -⟩
  · exact h q.1
  · have := q.2; omega
theorem naE_one {T : Int → Int} {n s : Int} {g : Bool} {e e' : Int × Int} (h : naE T n s g e) (h' : naE T n s g e') : e = e' := by
  rcases h with ⟨h, q⟩ | ⟨h, h2, q⟩ <;> rcases h' with ⟨h', q'⟩ | ⟨h', h2', q'⟩
  · rw [q, q']
  · exact absurd h' h
  · exact absurd h h'
  · rw [q, q']
theorem newName_bd {b : Bool} {e : Int × Int} {d : Nat} (x : Int) {ν : Nat → Int → Int} (h : RBd ν e) {Q : Int → (Nat → Int → Int) → Prop} (hQ : Q x ν) : ∀ (r : Nat) (i : Int), 0 ≤ i → i + r = 3 → Ev (fun m => mRun (mCallN d) kX10_newName m 7 [some (mP 96), some (mJ x), none, some (mI i)] [] (SH, ν, RHO b)) b Q := by
  intro r
  induction r with
  | zero =>
    intro i i0 hi
    exact ev_row (fun m => tX10_newName_7 _ m b ν _ _) (ev_neg (by omega) (ev_ret hQ))
  | succ r ih =>
    intro i i0 hi
    refine ev_row (fun m => tX10_newName_7 _ m b ν _ _) (ev_pos (by omega) (ev_neg (by rw [h.1]; exact h.2.1) (ev_row (fun m => tX10_newName_38 _ m b ν _ _) ?_)))
    rw [w32_id (by omega) (by omega)]
    exact ih (i + 1) (by omega) (by omega)
theorem bd_newName {b : Bool} {e : Int × Int} (ν : Nat → Int → Int) (h : RBd ν e) : ∀ d, 2 ≤ d → mCallN d 89 [mP 96] (SH, ν, RHO b) = some (0, SH, ν, RHO b) := deep fun d hd =>
  cal_eq (cal_ev (fun r => call_X10_newName d b ν) (ev_row (fun m => tX10_newName_0 _ m b ν) (ev_call (bd_name b ν h d (by omega)) (newName_bd 0 h ⟨rfl, rfl⟩ 3 0 (by decide) (by decide)))))
theorem sX10_newName {T : Int → Int} {n s : Int} {g : Bool} (hT : Tp T n) (b : Bool) (ν : Nat → Int → Int) (h : RSv T n ν s g) {N : Nat → List (List Int)} (hc : RNm ν N) (hN : NOk N) : ∀ d, 5 ≤ d → Cal d 89 [mP 96] b ν (fun v ν' => Fg [] lxJ ν ν' ∧ ((nmO T n s g ∧ ¬ knN N (nmL T n s) ∧ v = pk27 0 (nmL T n s) ∧ RSv T n ν' (nxS T n s) (nxG T n s g)) ∨ (nmO T n s g ∧ knN N (nmL T n s) ∧ RBd ν' (3, s)) ∨ ∃ e, naE T n s g e ∧ RBd ν' e)) := deepC fun d hd => by
  refine cal_ev (fun r => call_X10_newName d b ν) (ev_row (fun m => tX10_newName_0 _ m b ν) (ev_callP (sX10_name hT b ν h d (by omega)) (fun v ν1 ⟨f1', hh⟩ => ?_)))
  have f1 : Fg [] lxJ ν ν1 := f1'
  rcases hh with ⟨hn, hv, h31, h1'⟩ | ⟨e, he, h1'⟩
  · have h1 : RSv T n ν1 (nxS T n s) (nxG T n s g) := h1'
    have hg : gdN (nmL T n s) := nmL_ok hT h.2.2.2.2.2.2.1 hn
    have hc1 : RNm ν1 N := RNm_sm (f1.1 120 (by decide) (by decide)) (f1.1 121 (by decide) (by decide)) hc
    subst hv
    have hb : ν1 96 5 = 0 := h1.1
    have h31' : ν1 96 31 = s := h31
    have fl : ∀ (i : Int), 0 ≤ i → i < 3 → knN N (nmL T n s) → Ev (fun m => mOptR (mCallN d 36 [mP 96, mI 3, mI (ν1 96 31)] (SH, ν1, RHO b)) (fun x2 => mRun (mCallN d) kX10_newName m 38 [some (mP 96), some (mJ (pk27 0 (nmL T n s))), none, some (mI i)] [] (SH, x2.2.2.1, RHO b))) b (fun v ν' => Fg [] lxJ ν ν' ∧ ((nmO T n s g ∧ ¬ knN N (nmL T n s) ∧ v = pk27 0 (nmL T n s) ∧ RSv T n ν' (nxS T n s) (nxG T n s g)) ∨ (nmO T n s g ∧ knN N (nmL T n s) ∧ RBd ν' (3, s)) ∨ ∃ e, naE T n s g e ∧ RBd ν' e)) := fun i i0 i3 q => by
      rw [h31']
      refine ev_callP (sX10_fail0 3 s (by decide) b ν1 hb d (by omega)) (fun v2 ν2 ⟨f2, h2⟩ => ?_)
      refine ev_row (fun m => tX10_newName_38 _ m b _ _ _) ?_
      rw [w32_id (by omega) (by omega)]
      exact newName_bd _ h2 ⟨fg_tr f1 f2 (by decide) (by decide), Or.inr (Or.inl ⟨hn, q, h2⟩)⟩ (2 - i).toNat (i + 1) (by omega) (by omega)
    refine ev_row (fun m => tX10_newName_7 _ m b ν1 _ 0) (ev_pos (by decide) (ev_pos hb (ev_call (rnm_num hc1 hN (by decide : 0 < 4) (by decide) hg d (by omega)) (ev_br (fun e0 => ?_) (fun e0 => fl 0 (by decide) (by decide) (Or.inl e0))))))
    refine ev_row (fun m => tX10_newName_38 _ m b ν1 _ _) ?_
    rw [show w32 (0 + 1) = 1 from w32_id (by omega) (by omega)]
    refine ev_row (fun m => tX10_newName_7 _ m b ν1 _ 1) (ev_pos (by decide) (ev_pos hb (ev_call (rnm_num hc1 hN (by decide : 1 < 4) (by decide) hg d (by omega)) (ev_br (fun e1 => ?_) (fun e1 => fl 1 (by decide) (by decide) (Or.inr (Or.inl e1)))))))
    refine ev_row (fun m => tX10_newName_38 _ m b ν1 _ _) ?_
    rw [show w32 (1 + 1) = 2 from w32_id (by omega) (by omega)]
    refine ev_row (fun m => tX10_newName_7 _ m b ν1 _ 2) (ev_pos (by decide) (ev_pos hb (ev_call (rnm_num hc1 hN (by decide : 3 < 4) (by decide) hg d (by omega)) (ev_br (fun e3 => ?_) (fun e3 => fl 2 (by decide) (by decide) (Or.inr (Or.inr e3)))))))
    refine ev_row (fun m => tX10_newName_38 _ m b ν1 _ _) ?_
    rw [show w32 (2 + 1) = 3 from w32_id (by omega) (by omega)]
    refine ev_row (fun m => tX10_newName_7 _ m b ν1 _ 3) (ev_neg (by decide) (ev_ret ⟨f1, Or.inl ⟨hn, fun q => ?_, rfl, h1⟩⟩))
    rcases q with q | q | q
    · exact q e0
    · exact q e1
    · exact q e3
  · exact newName_bd v h1' ⟨f1, Or.inr (Or.inr ⟨e, he, h1'⟩)⟩ 3 0 (by decide) (by decide)
theorem oneOf_bd {b : Bool} {e : Int × Int} {d : Nat} (k x y : Int) {ν : Nat → Int → Int} (h : RBd ν e) {Q : Int → (Nat → Int → Int) → Prop} (hQ : Q 0 ν) : Ev (fun m => mRun (mCallN d) kX10_oneOf m 35 [some (mP 96), some (mI k), some (mJ x), none, some (mI y)] [] (SH, ν, RHO b)) b Q :=
  ev_row (fun m => tX10_oneOf_35 _ m b ν _ _ _) (ev_neg (by rw [h.1]; exact h.2.1) (ev_row (fun m => tX10_oneOf_48 _ m b ν _ _ _ _) (ev_ret hQ)))
theorem bd_oneOf {b : Bool} {e : Int × Int} (ν : Nat → Int → Int) (h : RBd ν e) {N : Nat → List (List Int)} (hc : RNm ν N) (hN : NOk N) {k : Nat} (hk : k < 4) (k2 : k ≠ 2) : ∀ d, 2 ≤ d → mCallN d 96 [mP 96, mI (rk k)] (SH, ν, RHO b) = some (0, SH, ν, RHO b) := deep fun d hd => by
  obtain ⟨v, hv⟩ := rnm_any (b := b) hc hN hk k2 0
  exact cal_eq (cal_ev (fun r => call_X10_oneOf d b ν (rk k)) (ev_row (fun m => tX10_oneOf_0 _ m b ν (rk k)) (ev_call (bd_name b ν h d (by omega)) (ev_call (hv d (by omega)) (ev_neg (by show ¬ ν 96 5 = 0; rw [h.1]; exact h.2.1) (oneOf_bd _ _ _ h ⟨rfl, rfl⟩))))))
def olQ (T : Int → Int) (n s v : Int) (ν' : Nat → Int → Int) : Sum (Int × Int) (Int × Int × Bool) → Prop
  | .inl e => v = 0 ∧ RBd ν' e
  | .inr (x, s', g') => v = x ∧ ν' 96 31 = s ∧ RSv T n ν' s' g'
theorem sX10_oneOf {T : Int → Int} {n s : Int} {g : Bool} (hT : Tp T n) (b : Bool) (ν : Nat → Int → Int) (h : RSv T n ν s g) {N : Nat → List (List Int)} (hc : RNm ν N) (hN : NOk N) {k : Nat} (hk : k < 4) (k2 : k ≠ 2) {r : Sum (Int × Int) (Int × Int × Bool)} (hr : olR T n s g (N k) r) : ∀ d, 5 ≤ d → Cal d 96 [mP 96, mI (rk k)] b ν (fun v ν' => Fg [] lxJ ν ν' ∧ olQ T n s v ν' r) := deepC fun d hd => by
  refine cal_ev (fun r => call_X10_oneOf d b ν (rk k)) (ev_row (fun m => tX10_oneOf_0 _ m b ν (rk k)) (ev_callP (sX10_name hT b ν h d (by omega)) (fun v ν1 ⟨f1', hh⟩ => ?_)))
  have f1 : Fg [] lxJ ν ν1 := f1'
  have hc1 : RNm ν1 N := RNm_sm (f1.1 120 (by decide) (by decide)) (f1.1 121 (by decide) (by decide)) hc
  rcases hh with ⟨hn, hv, h31, h1'⟩ | ⟨e', he', h1'⟩
  · have h1 : RSv T n ν1 (nxS T n s) (nxG T n s g) := h1'
    have h31' : ν1 96 31 = s := h31
    subst hv
    refine ev_call (rnm_num hc1 hN hk k2 (nmL_ok hT h.2.2.2.2.2.2.1 hn) d (by omega)) (ev_pos h1.1 ?_)
    rcases r with e | ⟨x, s', g'⟩
    · rcases hr with he | ⟨-, q, rfl⟩
      · exact absurd hn (naE_no he)
      · refine ev_pos q ?_
        dsimp only
        rw [h31']
        exact ev_callP (sX10_fail0 3 s (by decide) b ν1 h1.1 d (by omega)) (fun v2 ν2 ⟨f2, h2⟩ => oneOf_bd _ _ _ h2 ⟨fg_tr f1 f2 (by decide) (by decide), rfl, h2⟩)
    · obtain ⟨-, v0, rfl, rfl, rfl⟩ := hr
      refine ev_neg (by show ¬ ixN (N k) (nmL T n s) = -1; omega) ?_
      exact ev_row (fun m => tX10_oneOf_35 _ m b ν1 _ _ _) (ev_pos h1.1 (ev_row (fun m => tX10_oneOf_48 _ m b ν1 _ _ _ _) (ev_ret ⟨f1, rfl, h31', h1⟩)))
  · have h1 : RBd ν1 e' := h1'
    obtain ⟨y, hy⟩ := rnm_any (b := b) hc1 hN hk k2 v
    refine ev_call (hy d (by omega)) (ev_neg (by show ¬ ν1 96 5 = 0; rw [h1.1]; exact h1.2.1) ?_)
    rcases r with e | ⟨x, s', g'⟩
    · rcases hr with he | ⟨hn, -⟩
      · rw [naE_one he he']
        exact oneOf_bd _ _ _ h1 ⟨f1, rfl, h1⟩
      · exact absurd hn (naE_no he')
    · exact absurd hr.1 (naE_no he')
theorem sX10_isFull {T : Int → Int} {n s : Int} {g : Bool} (b : Bool) (ν : Nat → Int → Int) (h : RSv T n ν s g) (k m p : Int) (k0 : 0 ≤ k) (k1 : k < 8) : ∀ d, 2 ≤ d → Cal d 63 [mP 96, mI k, mI m, mI p] b ν (fun v ν' => (ν 120 k ≠ m ∧ v = 0 ∧ ν' = ν) ∨ (ν 120 k = m ∧ v = 1 ∧ Fg [] [5, 6] ν ν' ∧ RBd ν' (5, p))) := deepC fun d hd => by
  refine cal_ev (fun r => call_X10_isFull d b ν k m p) (ev_row (fun j => tX10_isFull_0 _ j b ν k m p) (ev_pos h.1 (ev_if ⟨k0, k1⟩ (ev_br (fun e => ?_) (fun e => ?_)))))
  · refine ev_callP (sX10_fail0 5 p (by decide) b ν h.1 d (by omega)) (fun v2 ν2 ⟨f2, h2⟩ => ?_)
    exact ev_row (fun j => tX10_isFull_23 _ j b _ _ _ _) (ev_neg (by show ¬ ν2 96 5 = 0; rw [h2.1]; exact h2.2.1) (ev_row (fun j => tX10_isFull_35 _ j b _ _ _ _ _) (ev_if (Or.inr rfl) (ev_ret (Or.inr ⟨e, rfl, f2, h2⟩)))))
  · exact ev_row (fun j => tX10_isFull_23 _ j b _ _ _ _) (ev_pos h.1 (ev_row (fun j => tX10_isFull_35 _ j b _ _ _ _ _) (ev_if (Or.inl rfl) (ev_ret (Or.inl ⟨e, rfl, rfl⟩)))))
