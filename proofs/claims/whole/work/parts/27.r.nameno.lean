/-! ===== town: names told, their numbers ===== -/
def gdN (w : List Int) : Prop := 1 ≤ w.length ∧ w.length ≤ 6 ∧ ∀ c ∈ w, 1 ≤ c ∧ c ≤ 26
/-- where a name stands in a list, or -1 -/
def ixN (L : List (List Int)) (w : List Int) : Int := fFirst (fun i => if L.getD i.toNat [] = w then 1 else 0) 1 L.length 0
theorem pk5_inj : ∀ {a c : List Int}, (∀ x ∈ a, 1 ≤ x ∧ x ≤ 26) → (∀ x ∈ c, 1 ≤ x ∧ x ≤ 26) → pk5 a = pk5 c → a = c
  | [], [], _, _, _ => rfl
  | [], y :: c, _, h, e => by
    have := h y List.mem_cons_self
    have := (pk5_lt c (fun x hx => h x (List.mem_cons_of_mem _ hx))).1
    rw [pk5, pk5] at e; omega
  | y :: c, [], h, _, e => by
    have := h y List.mem_cons_self
    have := (pk5_lt c (fun x hx => h x (List.mem_cons_of_mem _ hx))).1
    rw [pk5, pk5] at e; omega
  | x :: a, y :: c, h, h', e => by
    have h1 := h x List.mem_cons_self
    have h2 := h' y List.mem_cons_self
    rw [pk5, pk5] at e
    rw [show x = y by omega, pk5_inj (fun z hz => h z (List.mem_cons_of_mem _ hz)) (fun z hz => h' z (List.mem_cons_of_mem _ hz)) (by omega : pk5 a = pk5 c)]
theorem pk27_pos : ∀ (a : List Int) (v : Int), 0 ≤ v → (∀ x ∈ a, 1 ≤ x ∧ x ≤ 26) → v ≤ pk27 v a ∧ (1 ≤ a.length → 1 ≤ pk27 v a)
  | [], v, h0, _ => ⟨Int.le_refl _, fun q => by simp at q⟩
  | x :: a, v, h0, h => by
    have h1 := h x List.mem_cons_self
    have := (pk27_pos a (27 * v + x) (by omega) (fun z hz => h z (List.mem_cons_of_mem _ hz))).1
    rw [pk27]; exact ⟨by omega, fun _ => by omega⟩
theorem pkR_inj : ∀ {a c : List Int}, (∀ x ∈ a, 1 ≤ x ∧ x ≤ 26) → (∀ x ∈ c, 1 ≤ x ∧ x ≤ 26) → pk27 0 a.reverse = pk27 0 c.reverse → a = c
  | [], [], _, _, _ => rfl
  | [], y :: c, _, h, e => by
    have h2 := h y List.mem_cons_self
    have := (pk27_pos c.reverse 0 (by omega) (fun x hx => h x (List.mem_cons_of_mem _ (List.mem_reverse.1 hx)))).1
    rw [List.reverse_cons, pk27_snoc, List.reverse_nil, pk27] at e; omega
  | y :: c, [], h, _, e => by
    have h2 := h y List.mem_cons_self
    have := (pk27_pos c.reverse 0 (by omega) (fun x hx => h x (List.mem_cons_of_mem _ (List.mem_reverse.1 hx)))).1
    rw [List.reverse_cons, pk27_snoc, List.reverse_nil, pk27] at e; omega
  | x :: a, y :: c, h, h', e => by
    have h1 := h x List.mem_cons_self
    have h2 := h' y List.mem_cons_self
    rw [List.reverse_cons, List.reverse_cons, pk27_snoc, pk27_snoc] at e
    rw [show x = y by omega, pkR_inj (fun z hz => h z (List.mem_cons_of_mem _ hz)) (fun z hz => h' z (List.mem_cons_of_mem _ hz)) (by omega : pk27 0 a.reverse = pk27 0 c.reverse)]
theorem pk27_inj {a c : List Int} (h : ∀ x ∈ a, 1 ≤ x ∧ x ≤ 26) (h' : ∀ x ∈ c, 1 ≤ x ∧ x ≤ 26) (e : pk27 0 a = pk27 0 c) : a = c := by
  have := pkR_inj (a := a.reverse) (c := c.reverse) (fun x hx => h x (List.mem_reverse.1 hx)) (fun x hx => h' x (List.mem_reverse.1 hx)) (by rw [List.reverse_reverse, List.reverse_reverse]; exact e)
  rw [← List.reverse_reverse a, this, List.reverse_reverse]
theorem fFirst_eq {f g : Int → Int} {x y : Int} : ∀ (k : Nat) (i : Int), (∀ j, i ≤ j → j < i + k → (f j = x ↔ g j = y)) → fFirst f x k i = fFirst g y k i
  | 0, _, _ => rfl
  | k + 1, i, h => by
    rw [fFirst, fFirst, fFirst_eq k (i + 1) (fun j h1 h2 => h j (by omega) (by omega))]
    by_cases e : f i = x
    · rw [if_pos e, if_pos ((h i (by omega) (by omega)).1 e)]
    · rw [if_neg e, if_neg (fun q => e ((h i (by omega) (by omega)).2 q))]
theorem fFirst_or {f : Int → Int} {x : Int} : ∀ (k : Nat) (i : Int), (fFirst f x k i = -1 ∧ ∀ j, i ≤ j → j < i + k → f j ≠ x) ∨ (i ≤ fFirst f x k i ∧ fFirst f x k i < i + k ∧ f (fFirst f x k i) = x)
  | 0, i => Or.inl ⟨rfl, fun j h1 h2 => by omega⟩
  | k + 1, i => by
    rw [fFirst]
    by_cases e : f i = x
    · rw [if_pos e]; exact Or.inr ⟨Int.le_refl _, by omega, e⟩
    · rw [if_neg e]
      rcases fFirst_or (f := f) (x := x) k (i + 1) with ⟨h1, h2⟩ | ⟨h1, h2, h3⟩
      · refine Or.inl ⟨h1, fun j j1 j2 => ?_⟩
        by_cases q : j = i
        · rw [q]; exact e
        · exact h2 j (by omega) (by omega)
      · exact Or.inr ⟨by omega, by omega, h3⟩
theorem ixN_or (L : List (List Int)) (w : List Int) : (ixN L w = -1 ∧ ∀ j : Nat, j < L.length → L.getD j [] ≠ w) ∨ (0 ≤ ixN L w ∧ ixN L w < L.length ∧ L.getD (ixN L w).toNat [] = w) := by
  rcases fFirst_or (f := fun i => if L.getD i.toNat [] = w then 1 else 0) (x := 1) L.length 0 with ⟨h1, h2⟩ | ⟨h1, h2, h3⟩
  · refine Or.inl ⟨h1, fun j hj q => ?_⟩
    have := h2 (j : Int) (by omega) (by omega)
    rw [Int.toNat_natCast, if_pos q] at this
    exact this rfl
  · refine Or.inr ⟨h1, by have := h2; unfold ixN; omega, ?_⟩
    by_cases q : L.getD (ixN L w).toNat [] = w
    · exact q
    · have h3' : (if L.getD (ixN L w).toNat [] = w then (1 : Int) else 0) = 1 := h3
      rw [if_neg q] at h3'; omega
theorem rho_nm {b c : Bool} {k : Int} (h0 : 0 ≤ k) (h1 : k < 4) : RHO b (tw c + 2) k = some (tw c + 3 + k.toNat) := by
  rcases (by omega : k = 0 ∨ k = 1 ∨ k = 2 ∨ k = 3) with e | e | e | e <;> subst e <;> cases b <;> cases c <;> rfl
theorem shp_nm {c : Bool} {k : Int} (h0 : 0 ≤ k) (h1 : k < 4) : shp (tw c + 3 + k.toNat) = (0, 12) := by
  rcases (by omega : k = 0 ∨ k = 1 ∨ k = 2 ∨ k = 3) with e | e | e | e <;> subst e <;> cases c <;> rfl
theorem sX7_numberOf (k x : Int) (c b : Bool) (μ : Nat → Int → Int) (h0 : 0 ≤ k) (h1 : k < 4) (c0 : 0 ≤ μ (tw c + 1) k) (c1 : μ (tw c + 1) k ≤ 12) : ∀ d, 1 ≤ d → mCallN d 202 [mP (tw c), mI k, mI x] (SH, μ, RHO b) = some (fFirst (μ (tw c + 3 + k.toNat)) x (μ (tw c + 1) k).toNat 0, SH, μ, RHO b) := deep fun d _ => by
  have lp : ∀ (r : Nat) (i : Int), 0 ≤ i → i + r = μ (tw c + 1) k → Ev (fun m => mRun (mCallN d) kX7_numberOf m 2 [some (mP (tw c)), some (mI k), some (mI x), some (mI i)] [] (SH, μ, RHO b)) b (fun v μ' => v = fFirst (μ (tw c + 3 + k.toNat)) x r i ∧ μ' = μ) := by
    intro r
    induction r with
    | zero =>
      intro i i0 hi
      exact ev_row (fun m => tX7_numberOf_2 _ m b μ _ _ _ _) (ev_if ⟨h0, h1⟩ (ev_neg (by omega) (ev_ret ⟨rfl, rfl⟩)))
    | succ r ih =>
      intro i i0 hi
      refine ev_row (fun m => tX7_numberOf_2 _ m b μ _ _ _ _) (ev_if ⟨h0, h1⟩ (ev_pos (by omega) (ev_if ⟨h0, h1⟩ (ev_opt (rho_nm h0 h1) (ev_bif (arr_of (shp_nm h0 h1)) (ev_if ⟨i0, by rw [show mShape (SH, μ, RHO b) (tw c + 3 + k.toNat) = (0, 12) from shp_nm h0 h1]; show i < ((12 : Nat) : Int); omega⟩ (ev_br (fun e => ev_ret ⟨by rw [fFirst, if_pos e], rfl⟩) (fun e => ?_))))))))
      rw [fFirst, if_neg e]
      have hw : w32 (i + 1) = i + 1 := w32_id (by omega) (by omega)
      rw [hw]
      exact ih (i + 1) (by omega) (by omega)
  refine cal_eq (cal_ev (fun r => call_X7_numberOf d b μ k x c) (ev_row (fun m => tX7_numberOf_0 _ m b μ k x c) ?_))
  exact lp _ 0 (Int.le_refl _) (by omega)
/-- the class's names of a draft -/
def CNm (b : Bool) (μ : Nat → Int → Int) (N : Nat → List (List Int)) : Prop := ∀ k : Nat, k < 4 → k ≠ 2 → μ (tw (!b) + 1) (k : Int) = ((N k).length : Int) ∧ ∀ i : Nat, i < (N k).length → μ (tw (!b) + 3 + k) (i : Int) = pk5 ((N k).getD i [])
/-- names that can be -/
def NOk (N : Nat → List (List Int)) : Prop := ∀ k : Nat, k < 4 → k ≠ 2 → (N k).length ≤ 12 ∧ ∀ w ∈ N k, gdN w
theorem getD_memN {L : List (List Int)} {i : Nat} (h : i < L.length) : L.getD i [] ∈ L := by
  rw [List.getD_eq_getElem?_getD, List.getElem?_eq_getElem h]; exact List.getElem_mem h
theorem cnm_num {b : Bool} {μ : Nat → Int → Int} {N : Nat → List (List Int)} (h : CNm b μ N) (hN : NOk N) {k : Nat} (hk : k < 4) (h2 : k ≠ 2) {w : List Int} (hw : gdN w) : ∀ d, 1 ≤ d → mCallN d 202 [mP (tw (!b)), mI (k : Int), mI (pk5 w)] (SH, μ, RHO b) = some (ixN (N k) w, SH, μ, RHO b) := fun d hd => by
  obtain ⟨h1, h3⟩ := h k hk h2
  obtain ⟨n1, n2⟩ := hN k hk h2
  rw [sX7_numberOf (k : Int) (pk5 w) (!b) b μ (by omega) (by omega) (by omega) (by omega) d hd, h1, Int.toNat_natCast, Int.toNat_natCast]
  unfold ixN
  rw [fFirst_eq (g := fun i => if (N k).getD i.toNat [] = w then 1 else 0) (y := 1) (N k).length 0 (fun j j0 j1 => ?_)]
  obtain ⟨i, rfl⟩ : ∃ i : Nat, j = (i : Int) := ⟨j.toNat, by omega⟩
  rw [h3 i (by omega), Int.toNat_natCast]
  have hg := n2 _ (getD_memN (by omega : i < (N k).length))
  refine ⟨fun e => by rw [if_pos (pk5_inj hg.2.2 hw.2.2 e)], fun e => ?_⟩
  by_cases q : (N k).getD i [] = w
  · rw [q]
  · rw [if_neg q] at e; omega
def knN (N : Nat → List (List Int)) (w : List Int) : Prop := ixN (N 0) w ≠ -1 ∨ ixN (N 1) w ≠ -1 ∨ ixN (N 3) w ≠ -1
theorem knows_gen (x : Int) (c b : Bool) (μ : Nat → Int → Int) (v0 v1 v3 : Int) {d : Nat} (h0 : mCallN d 202 [mP (tw c), mI 0, mI x] (SH, μ, RHO b) = some (v0, SH, μ, RHO b)) (h1 : mCallN d 202 [mP (tw c), mI 1, mI x] (SH, μ, RHO b) = some (v1, SH, μ, RHO b)) (h3 : mCallN d 202 [mP (tw c), mI 3, mI x] (SH, μ, RHO b) = some (v3, SH, μ, RHO b)) : Cal (d + 1) 201 [mP (tw c), mI x] b μ (fun v μ' => μ' = μ ∧ v = t01 (v0 ≠ -1 ∨ v1 ≠ -1 ∨ v3 ≠ -1)) := by
  refine cal_ev (fun r => call_X7_knows d b μ x c) (ev_row (fun m => tX7_knows_0 _ m b μ x c) ?_)
  have w1 : w32 (0 + 1) = 1 := w32_id (by omega) (by omega)
  have w2 : w32 (1 + 1) = 2 := w32_id (by omega) (by omega)
  have w3 : w32 (2 + 1) = 3 := w32_id (by omega) (by omega)
  have w4 : w32 (3 + 1) = 4 := w32_id (by omega) (by omega)
  refine ev_row (fun m => tX7_knows_2 _ m b μ x 0 c) (ev_pos (by decide) (ev_neg (by decide) (ev_call h0 (ev_br (fun e0 => ?_) (fun e0 => ev_ret ⟨rfl, by rw [t01_pos (Or.inl e0)]⟩)))))
  refine ev_row (fun m => tX7_knows_28 _ m b μ x 0 c) ?_
  rw [w1]
  refine ev_row (fun m => tX7_knows_2 _ m b μ x 1 c) (ev_pos (by decide) (ev_neg (by decide) (ev_call h1 (ev_br (fun e1 => ?_) (fun e1 => ev_ret ⟨rfl, by rw [t01_pos (Or.inr (Or.inl e1))]⟩)))))
  refine ev_row (fun m => tX7_knows_28 _ m b μ x 1 c) ?_
  rw [w2]
  refine ev_row (fun m => tX7_knows_2 _ m b μ x 2 c) (ev_pos (by decide) (ev_pos (by decide) ?_))
  refine ev_row (fun m => tX7_knows_28 _ m b μ x 2 c) ?_
  rw [w3]
  refine ev_row (fun m => tX7_knows_2 _ m b μ x 3 c) (ev_pos (by decide) (ev_neg (by decide) (ev_call h3 (ev_br (fun e3 => ?_) (fun e3 => ev_ret ⟨rfl, by rw [t01_pos (Or.inr (Or.inr e3))]⟩)))))
  refine ev_row (fun m => tX7_knows_28 _ m b μ x 3 c) ?_
  rw [w4]
  refine ev_row (fun m => tX7_knows_2 _ m b μ x 4 c) (ev_neg (by decide) (ev_ret ⟨rfl, ?_⟩))
  dsimp only at e0 e1 e3
  rw [t01_neg (by omega)]
theorem cnm_knows {b : Bool} {μ : Nat → Int → Int} {N : Nat → List (List Int)} (h : CNm b μ N) (hN : NOk N) {w : List Int} (hw : gdN w) : ∀ d, 2 ≤ d → Cal d 201 [mP (tw (!b)), mI (pk5 w)] b μ (fun v μ' => μ' = μ ∧ v = t01 (ixN (N 0) w ≠ -1 ∨ ixN (N 1) w ≠ -1 ∨ ixN (N 3) w ≠ -1)) := deepC fun d hd =>
  knows_gen (pk5 w) (!b) b μ _ _ _ (cnm_num h hN (by decide : 0 < 4) (by decide) hw d hd) (cnm_num h hN (by decide : 1 < 4) (by decide) hw d hd) (cnm_num h hN (by decide : 3 < 4) (by decide) hw d hd)
