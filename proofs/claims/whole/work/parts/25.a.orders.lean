/-! ===== orders: lists ===== -/
def iotaI (n : Nat) : List Int := (List.range n).map (fun j : Nat => (j : Int))
theorem fct_pos : ∀ n, 0 < fct n
  | 0 => Nat.one_pos
  | n + 1 => Nat.mul_pos (Nat.succ_pos n) (fct_pos n)
theorem fct_le {n : Nat} (h : n ≤ 6) : fct n ≤ 720 := by
  have H : ∀ j : Fin 7, fct j.1 ≤ 720 := by decide
  exact H ⟨n, by omega⟩
theorem pmD_len : ∀ (n : Nat) (l : List Int) (k : Nat), (pmD n l k).length = n
  | 0, _, _ => rfl
  | n + 1, l, k => by rw [pmD, List.length_cons, pmD_len n]
theorem getD_map {L : Int → Int} : ∀ (l : List Int) (i : Nat), i < l.length → (l.map L).getD i 0 = L (l.getD i 0)
  | [], i, h => absurd h (by simp)
  | a :: t, 0, _ => rfl
  | a :: t, i + 1, h => by
    rw [List.map_cons, List.getD_cons_succ, List.getD_cons_succ]
    exact getD_map t i (by rw [List.length_cons] at h; omega)
theorem erase_map {L : Int → Int} : ∀ (l : List Int) (i : Nat), (l.map L).eraseIdx i = (l.eraseIdx i).map L
  | [], i => rfl
  | a :: t, 0 => rfl
  | a :: t, i + 1 => by
    rw [List.map_cons, List.eraseIdx_cons_succ, List.eraseIdx_cons_succ, List.map_cons, erase_map t i]
theorem erase_len : ∀ (l : List Int) (i : Nat), i < l.length → (l.eraseIdx i).length + 1 = l.length
  | [], i, h => absurd h (by simp)
  | a :: t, 0, _ => rfl
  | a :: t, i + 1, h => by
    rw [List.eraseIdx_cons_succ, List.length_cons, List.length_cons, erase_len t i (by rw [List.length_cons] at h; omega)]
theorem div_lt_fct {n k : Nat} (h : k < fct (n + 1)) : k / fct n < n + 1 := Nat.div_lt_of_lt_mul (by rw [Nat.mul_comm]; exact h)
theorem pmD_map {L : Int → Int} : ∀ (n : Nat) (l : List Int) (k : Nat), l.length = n → k < fct n → pmD n (l.map L) k = (pmD n l k).map L
  | 0, _, _, _, _ => rfl
  | n + 1, l, k, hl, hk => by
    have h1 := div_lt_fct hk
    rw [pmD, pmD, List.map_cons, getD_map l _ (by omega), erase_map, pmD_map n _ _ (by have := erase_len l (k / fct n) (by omega); omega) (Nat.mod_lt _ (fct_pos n))]
theorem getD_mem : ∀ (l : List Int) (i : Nat), i < l.length → l.getD i 0 ∈ l
  | [], i, h => absurd h (by simp)
  | a :: t, 0, _ => List.mem_cons_self
  | a :: t, i + 1, h => List.mem_cons_of_mem _ (by rw [List.getD_cons_succ]; exact getD_mem t i (by rw [List.length_cons] at h; omega))
theorem erase_mem : ∀ (l : List Int) (i : Nat) (x : Int), x ∈ l.eraseIdx i → x ∈ l
  | [], i, x, h => h
  | a :: t, 0, x, h => List.mem_cons_of_mem _ h
  | a :: t, i + 1, x, h => by
    rw [List.eraseIdx_cons_succ, List.mem_cons] at h
    rcases h with h | h
    · rw [h]; exact List.mem_cons_self
    · exact List.mem_cons_of_mem _ (erase_mem t i x h)
theorem pmD_mem : ∀ (n : Nat) (l : List Int) (k : Nat), l.length = n → k < fct n → ∀ x ∈ pmD n l k, x ∈ l
  | 0, _, _, _, _, x, hx => absurd hx (by simp [pmD])
  | n + 1, l, k, hl, hk, x, hx => by
    have h1 := div_lt_fct hk
    rw [pmD, List.mem_cons] at hx
    rcases hx with hx | hx
    · rw [hx]; exact getD_mem l _ (by omega)
    · exact erase_mem l _ x (pmD_mem n _ _ (by have := erase_len l (k / fct n) (by omega); omega) (Nat.mod_lt _ (fct_pos n)) x hx)
theorem iota_len (n : Nat) : (iotaI n).length = n := by unfold iotaI; rw [List.length_map, List.length_range]
theorem iota_mem {n : Nat} {x : Int} (h : x ∈ iotaI n) : 0 ≤ x ∧ x < n := by
  unfold iotaI at h
  rw [List.mem_map] at h
  obtain ⟨j, hj, e⟩ := h
  have := List.mem_range.1 hj
  omega
theorem as_iota (l : List Int) : l = (iotaI l.length).map (fun x => l.getD x.toNat 0) := by
  apply List.ext_getElem
  · rw [List.length_map, iota_len]
  · intro i h1 h2
    simp [iotaI, List.getD_eq_getElem?_getD, List.getElem?_eq_getElem h1]
/-- the pattern of an order -/
def patI (n k : Nat) : Int → Int := ofL (pmD n (iotaI n) k)
theorem pat_in {n k : Nat} (hk : k < fct n) {g : Int} (g0 : 0 ≤ g) (g1 : g < n) : 0 ≤ patI n k g ∧ patI n k g < n := iota_mem (pmD_mem n (iotaI n) k (iota_len n) hk _ (getD_mem _ _ (by rw [pmD_len]; omega)))
theorem ord_pat {n k : Nat} {l : List Int} (hl : l.length = n) (hk : k < fct n) {g : Int} (g0 : 0 ≤ g) (g1 : g < n) : ofL (pmD n l k) g = l.getD (patI n k g).toNat 0 := by
  have e : pmD n l k = (pmD n (iotaI n) k).map (fun x => l.getD x.toNat 0) := by
    have h := as_iota l
    rw [hl] at h
    have h2 := pmD_map (L := fun x => l.getD x.toNat 0) n (iotaI n) k (iota_len n) hk
    rw [← h2, ← h]
  unfold ofL
  rw [e, getD_map _ _ (by rw [pmD_len]; omega)]
  rfl
/-! the next order, by patterns -/
def nxR (pat : Int → Int) : Nat → Int
  | 0 => -1
  | k + 1 => if pat ((k : Int) + 1) < pat k then nxR pat k else k
def nxA (pat : Int → Int) (r : Int) : Nat → Int → Int
  | 0, v => v
  | k + 1, v => if r + 1 < v ∧ pat v < pat r then nxA pat r k (v - 1) else v
def nxV : Nat → (Int → Int) → Int → Int → (Int → Int)
  | 0, pat, _, _ => pat
  | k + 1, pat, i, j => if i < j then nxV k (exch pat i j) (i + 1) (j - 1) else pat
def nxP (pat : Int → Int) (n : Nat) : Int → Int := nxV n (exch pat (nxR pat (n - 1)) (nxA pat (nxR pat (n - 1)) n ((n : Int) - 1))) (nxR pat (n - 1) + 1) ((n : Int) - 1)
def nxCk (n k : Nat) : Bool := if nxR (patI n k) (n - 1) < 0 then decide (k + 1 = fct n) else decide (k + 1 < fct n) && (List.range n).all (fun g => decide (nxP (patI n k) n (g : Int) = patI n (k + 1) (g : Int)))
theorem nxCk_a : (List.range 6).all (fun n => (List.range (fct n)).all (nxCk n)) = true := by decide +kernel
theorem nxCk_b : (List.range (fct 6)).all (nxCk 6) = true := by decide +kernel
theorem nx_ok {n k : Nat} (hn : n ≤ 6) (hk : k < fct n) : (nxR (patI n k) (n - 1) < 0 ∧ k + 1 = fct n) ∨ (¬ nxR (patI n k) (n - 1) < 0 ∧ k + 1 < fct n ∧ ∀ g : Int, 0 ≤ g → g < n → nxP (patI n k) n g = patI n (k + 1) g) := by
  have h : nxCk n k = true := by
    by_cases e : n = 6
    · subst e
      exact List.all_eq_true.mp nxCk_b k (List.mem_range.mpr hk)
    · exact List.all_eq_true.mp (List.all_eq_true.mp nxCk_a n (List.mem_range.mpr (by omega))) k (List.mem_range.mpr hk)
  unfold nxCk at h
  by_cases c : nxR (patI n k) (n - 1) < 0
  · rw [if_pos c, decide_eq_true_eq] at h
    exact Or.inl ⟨c, h⟩
  · rw [if_neg c, Bool.and_eq_true, decide_eq_true_eq] at h
    refine Or.inr ⟨c, h.1, fun g g0 g1 => ?_⟩
    have := List.all_eq_true.mp h.2 g.toNat (List.mem_range.mpr (by omega))
    rw [decide_eq_true_eq, show ((g.toNat : Nat) : Int) = g by omega] at this
    exact this
/-! the men at gates, as a list -/
theorem flt_snoc (p : Int → Bool) (i : Nat) : (iotaI (i + 1)).filter p = (iotaI i).filter p ++ (if p i then [(i : Int)] else []) := by
  unfold iotaI
  rw [List.range_succ, List.map_append, List.filter_append, List.map_singleton, List.filter_cons, List.filter_nil]
theorem flt_cnt (p : Int → Bool) : ∀ n : Nat, ((iotaI n).filter p).length = cnt (fun m => if p m then 0 else 1) 0 n
  | 0 => rfl
  | n + 1 => by
    rw [flt_snoc, List.length_append, flt_cnt p n, cnt]
    by_cases e : p n = true
    · rw [if_pos e, if_pos e, if_pos (by decide)]; rfl
    · rw [if_neg e, if_neg e, if_neg (by decide)]; rfl
theorem menL_eq (gm : Int → Int) (n : Nat) : menL gm n = (iotaI 12).filter (fun m => isAt gm m n) := rfl
theorem menL_len {gm : Int → Int} {n : Nat} (hr : ∀ g, 0 ≤ g → g < (n : Int) → 0 ≤ gm g ∧ gm g < 12) (hi : ∀ g h, 0 ≤ g → g < (n : Int) → 0 ≤ h → h < (n : Int) → gm g = gm h → g = h) : (menL gm n).length = n := by
  rw [menL_eq, flt_cnt]
  exact inj_cM n hr hi
theorem iota_pw (n : Nat) : (iotaI n).Pairwise (· < ·) := by
  unfold iotaI
  rw [List.pairwise_map]
  exact List.Pairwise.imp (fun h => Int.ofNat_lt.mpr h) List.pairwise_lt_range
theorem menL_pw (gm : Int → Int) (n : Nat) : (menL gm n).Pairwise (· < ·) := by
  rw [menL_eq]
  exact List.Pairwise.filter _ (iota_pw 12)
theorem pw_getD {l : List Int} (h : l.Pairwise (· < ·)) {i j : Nat} (hij : i < j) (hj : j < l.length) : l.getD i 0 < l.getD j 0 := by
  have := List.pairwise_iff_getElem.1 h i j (by omega) hj hij
  rw [List.getD_eq_getElem?_getD, List.getD_eq_getElem?_getD, List.getElem?_eq_getElem (by omega), List.getElem?_eq_getElem hj]
  exact this
theorem pw_lt {l : List Int} (h : l.Pairwise (· < ·)) {x y : Int} (x0 : 0 ≤ x) (x1 : x < l.length) (y0 : 0 ≤ y) (y1 : y < l.length) : l.getD x.toNat 0 < l.getD y.toNat 0 ↔ x < y := by
  constructor
  · intro q
    rcases Int.lt_trichotomy x y with c | c | c
    · exact c
    · rw [c] at q; omega
    · have := pw_getD h (i := y.toNat) (j := x.toNat) (by omega) (by omega); omega
  · intro q
    exact pw_getD h (by omega) (by omega)
theorem menL_mem {gm : Int → Int} {n : Nat} {x : Int} (h : x ∈ menL gm n) : (0 ≤ x ∧ x < 12) ∧ ∃ g, 0 ≤ g ∧ g < (n : Int) ∧ gm g = x := by
  rw [menL_eq, List.mem_filter] at h
  exact ⟨iota_mem h.1, (isAt_iff n).1 h.2⟩
