/-! ===== sets as lists of their bits ===== -/
def bL (s : Nat) : List Nat := (List.range 12).filter (fun i => s.testBit i)
theorem bL_low_a : (List.range 4096).all (fun s => decide (bL (s &&& (s - 1)) = (bL s).tail)) = true := by decide +kernel
theorem bL_low {s : Nat} (h : s < 4096) : bL (s &&& (s - 1)) = (bL s).tail := by
  have := List.all_eq_true.mp bL_low_a s (List.mem_range.mpr h)
  rwa [decide_eq_true_eq] at this
theorem bL_pw (s : Nat) : (bL s).Pairwise (· < ·) := List.Pairwise.filter _ List.pairwise_lt_range
theorem bL_len (s : Nat) : (bL s).length ≤ 12 := Nat.le_trans (List.length_filter_le _ _) (by rw [List.length_range]; exact Nat.le_refl _)
theorem bL_mem {s x : Nat} : x ∈ bL s ↔ x < 12 ∧ s.testBit x = true := by
  unfold bL
  rw [List.mem_filter, List.mem_range]
theorem clr_bit : ∀ x m : Fin 12, (4294967295 - 2 ^ m.1).testBit x.1 = (x.1 != m.1) := by decide +kernel
theorem bL_clr {s m : Nat} (hm : m < 12) : bL (s &&& (4294967295 - 2 ^ m)) = (bL s).filter (fun x => x != m) := by
  unfold bL
  rw [List.filter_filter]
  apply List.filter_congr
  intro x hx
  rw [Nat.testBit_and, clr_bit ⟨x, List.mem_range.1 hx⟩ ⟨m, hm⟩, Bool.and_comm]
theorem flt_erase : ∀ (l : List Nat) (i : Nat), l.Pairwise (· < ·) → i < l.length → l.filter (fun x => x != l.getD i 0) = l.eraseIdx i
  | [], i, _, h => absurd h (by simp)
  | a :: t, 0, hp, _ => by
    have h1 := (List.pairwise_cons.1 hp).1
    rw [List.getD_cons_zero, List.filter_cons_of_neg (by simp), List.eraseIdx_cons_zero]
    apply List.filter_eq_self.2
    intro x hx
    have := h1 x hx
    rw [bne_iff_ne]
    omega
  | a :: t, i + 1, hp, h => by
    have h1 := (List.pairwise_cons.1 hp).1
    have hi : i < t.length := by rw [List.length_cons] at h; omega
    have hm : t.getD i 0 ∈ t := by
      rw [List.getD_eq_getElem?_getD, List.getElem?_eq_getElem hi]
      exact List.getElem_mem hi
    have := h1 _ hm
    rw [List.getD_cons_succ, List.filter_cons_of_pos (by rw [bne_iff_ne]; omega), List.eraseIdx_cons_succ, flt_erase t i (List.pairwise_cons.1 hp).2 hi]
theorem iAnd_clr {s m : Int} (h0 : 0 ≤ s) (h1 : s < 4096) (m0 : 0 ≤ m) (m1 : m < 12) : iAnd s (iXor (iShl 1 m) (-1)) = ((s.toNat &&& (4294967295 - 2 ^ m.toNat) : Nat) : Int) := by
  have H : ∀ j : Fin 12, (Int32.ofInt (iXor (iShl 1 ((j.1 : Nat) : Int)) (-1))).toBitVec.toNat = 4294967295 - 2 ^ j.1 := by decide +kernel
  have h := H ⟨m.toNat, by omega⟩
  rw [show (((⟨m.toNat, by omega⟩ : Fin 12).1 : Nat) : Int) = m from by show ((m.toNat : Nat) : Int) = m; omega] at h
  have h' : (Int32.ofInt (iXor (iShl 1 m) (-1))).toBitVec.toNat = 4294967295 - 2 ^ m.toNat := h
  refine bv_int ?_ (nat_and_lt (by omega))
  rw [Int32.toBitVec_and, BitVec.toNat_and, bv_nat h0 (by omega), h']
/-- a set's members -/
def bLI (s : Int) : List Int := (bL s.toNat).map (fun j : Nat => (j : Int))
theorem erase_mapN : ∀ (l : List Nat) (i : Nat), (l.map (fun j : Nat => (j : Int))).eraseIdx i = (l.eraseIdx i).map (fun j : Nat => (j : Int))
  | [], i => rfl
  | a :: t, 0 => rfl
  | a :: t, i + 1 => by
    rw [List.map_cons, List.eraseIdx_cons_succ, List.eraseIdx_cons_succ, List.map_cons, erase_mapN t i]
theorem natD_map : ∀ (l : List Nat) (i : Nat), (l.map (fun j : Nat => (j : Int))).getD i 0 = ((l.getD i 0 : Nat) : Int)
  | [], i => rfl
  | a :: t, 0 => rfl
  | a :: t, i + 1 => by rw [List.map_cons, List.getD_cons_succ, List.getD_cons_succ]; exact natD_map t i
theorem sX10_nthOf {s n : Int} (b : Bool) (μ : Nat → Int → Int) (h0 : 0 ≤ s) (h1 : s < 4096) (n0 : 0 ≤ n) (n1 : n < ((bL s.toNat).length : Int)) : ∀ d, 1 ≤ d → mCallN d 92 [mI s, mI n] (SH, μ, RHO b) = some ((((bL s.toNat).getD n.toNat 0 : Nat) : Int), SH, μ, RHO b) := deep fun d _ => by
  have h12 := bL_len s.toNat
  have low : ∀ (k m : Nat) (s' : Nat) (a : Nat) (t : List Nat), s' < 4096 → bL s' = a :: t → m + k = a → Ev (fun q => mRun (mCallN d) kX10_nthOf q 23 [some (mI s), some (mI n), some (mI s'), some (mI m)] [] (SH, μ, RHO b)) b (fun v μ' => v = (a : Int) ∧ μ' = μ) := by
    intro k
    induction k with
    | zero =>
      intro m s' a t hs ht hk
      have ha : a ∈ bL s' := by rw [ht]; exact List.mem_cons_self
      have hb := bL_mem.1 ha
      have hm : m = a := by omega
      subst hm
      refine ev_row (fun q => tX10_nthOf_23 _ q b μ s n s' m) ?_
      rw [bit_iff (by omega) (by omega) (by omega) (by omega), if_pos (by unfold bI; exact hb.2)]
      exact ev_neg (by decide) (ev_ret ⟨rfl, rfl⟩)
    | succ k ih =>
      intro m s' a t hs ht hk
      have ha : a ∈ bL s' := by rw [ht]; exact List.mem_cons_self
      have hb := bL_mem.1 ha
      have hn : ¬ (s'.testBit m = true) := fun hc => by
        have hm : m ∈ bL s' := bL_mem.2 ⟨by omega, hc⟩
        have hp := bL_pw s'
        rw [ht] at hm hp
        rcases List.mem_cons.1 hm with e | e
        · omega
        · have := (List.pairwise_cons.1 hp).1 m e; omega
      refine ev_row (fun q => tX10_nthOf_23 _ q b μ s n s' m) ?_
      rw [bit_iff (by omega) (by omega) (by omega) (by omega), if_neg (by unfold bI; exact hn)]
      have e1 : ∀ _ : True, w32 ((m : Int) + 1) = ((m + 1 : Nat) : Int) := fun _ => by rw [w32_id (by omega) (by omega)]; rfl
      rw [e1 trivial]
      exact ev_pos rfl (ih (m + 1) s' a t hs ht (by omega))
  have go : ∀ (k i s' : Nat), s' < 4096 → bL s' = (bL s.toNat).drop i → (i : Int) + k = n → Ev (fun q => mRun (mCallN d) kX10_nthOf q 4 [some (mI s), some (mI n), some (mI s'), some (mI i)] [] (SH, μ, RHO b)) b (fun v μ' => v = (((bL s.toNat).getD n.toNat 0 : Nat) : Int) ∧ μ' = μ) := by
    intro k
    induction k with
    | zero =>
      intro i s' hs hd' hk
      have hi : n.toNat = i := by omega
      have e : bL s' = (bL s.toNat).getD n.toNat 0 :: (bL s.toNat).drop (i + 1) := by
        rw [hd', List.drop_eq_getElem_cons (by omega), hi, List.getD_eq_getElem?_getD, List.getElem?_eq_getElem (by omega)]
        rfl
      exact ev_row (fun q => tX10_nthOf_4 _ q b μ s n s' i) (ev_neg (by omega) (low ((bL s.toNat).getD n.toNat 0) 0 s' _ _ hs e (by omega)))
    | succ k ih =>
      intro i s' hs hd' hk
      have hne : s' ≠ 0 := fun e => by
        have h2 : bL 0 = [] := by decide
        rw [e, h2] at hd'
        have := congrArg List.length hd'
        rw [List.length_drop, List.length_nil] at this
        omega
      have e1 : ∀ _ : True, w32 ((i : Int) + 1) = ((i + 1 : Nat) : Int) := fun _ => by rw [w32_id (by omega) (by omega)]; rfl
      have e2 : ∀ _ : True, iAnd (s' : Int) (w32 ((s' : Int) - 1)) = ((s' &&& (s' - 1) : Nat) : Int) := fun _ => by
        rw [w32_id (by omega) (by omega), iAnd_n (by omega) (by omega) (by omega) (by omega), Int.toNat_natCast, show ((s' : Int) - 1).toNat = s' - 1 by omega]
      refine ev_row (fun q => tX10_nthOf_4 _ q b μ s n s' i) ?_
      rw [e1 trivial, e2 trivial]
      refine ev_pos (by omega) (ih (i + 1) _ ?_ ?_ (by omega))
      · exact Nat.lt_of_le_of_lt Nat.and_le_left hs
      · rw [bL_low hs, hd', List.tail_drop]
  have := go n.toNat 0 s.toNat (by omega) (by rw [List.drop_zero]) (by omega)
  rw [show ((s.toNat : Nat) : Int) = s by omega] at this
  exact cal_eq (cal_ev (fun r => call_X10_nthOf d b μ s n) (ev_row (fun q => tX10_nthOf_0 _ q b μ s n) this))
/-! ===== the order with a number, in the reference ===== -/
theorem fct_max (G : Nat) : fct (max G 1) = fct G := by
  cases G with
  | zero => rfl
  | succ n => rw [show max (n + 1) 1 = n + 1 by omega]
theorem fct_mul (j : Nat) : ((fct j : Nat) : Int) * ((j : Int) + 1) = ((fct (j + 1) : Nat) : Int) := by
  show ((fct j : Nat) : Int) * ((j : Int) + 1) = (((j + 1) * fct j : Nat) : Int)
  rw [Int.natCast_mul, Int.mul_comm]; rfl
theorem sX10_standsBy {gm : Int → Int} {G : Nat} (k : Nat) (b : Bool) (μ : Nat → Int → Int) (h7 : μ 120 7 = G) (hG : G ≤ 6) (hk : k < fct G) (hr : ∀ g, 0 ≤ g → g < (G : Int) → 0 ≤ μ 140 g ∧ μ 140 g < 12) (hs : ∀ m, 0 ≤ m → m < 12 → ((∃ g, 0 ≤ g ∧ g < (G : Int) ∧ μ 140 g = m) ↔ isAt gm m G = true)) (hl : (menL gm G).length = G) : ∀ d, 2 ≤ d → Cal d 117 [mP 96, mI k] b μ (fun _ μ' => Fr [133] μ μ' ∧ (∀ x, (x < 2 ∨ 2 + (G : Int) ≤ x) → μ' 133 x = μ 133 x) ∧ ∀ g, 0 ≤ g → g < (G : Int) → μ' 133 (2 + g) = ofL (pmD G (menL gm G) k) g) := deepC fun d hd => by
  have hf720 := fct_le hG
  -- one gate behind the other
  have lpG : ∀ (n g : Nat) (s v : Nat) (v6 : Option mV) (μ' : Nat → Int → Int), g + n = G → s < 4096 → (bL s).length = n → v < fct n → Fr [133] μ μ' → (∀ x, (x < 2 ∨ 2 + (G : Int) ≤ x) → μ' 133 x = μ 133 x) → Ev (fun q => mRun (mCallN d) kX10_standsBy q 62 [some (mP 96), some (mI k), some (mI s), some (mI v), some (mI (fct n)), some (mI g), v6] [] (SH, μ', RHO b)) b (fun _ μ2 => Fr [133] μ μ2 ∧ (∀ x, (x < 2 ∨ 2 + (G : Int) ≤ x) → μ2 133 x = μ 133 x) ∧ (∀ x, x < 2 + (g : Int) → μ2 133 x = μ' 133 x) ∧ ∀ h : Nat, h < n → μ2 133 (2 + (g : Int) + h) = (pmD n ((bL s).map (fun j : Nat => (j : Int))) v).getD h 0) := by
    intro n
    induction n with
    | zero =>
      intro g s v v6 μ' hg hs4 hl' hv hf ho
      exact ev_row (fun q => tX10_standsBy_62 _ q b μ' _ _ _ _ _ v6) (ev_call (sX10_gateMany b μ' d (by omega)) (ev_neg (by show ¬ ((g : Int) < μ' 120 7); rw [hf 120 (by decide)]; omega) (ev_ret ⟨hf, ho, fun x _ => rfl, fun h hh => absurd hh (by omega)⟩)))
    | succ n ih =>
      intro g s v v6 μ' hg hs4 hl' hv hf ho
      have hfn := fct_pos n
      have hfn7 := fct_le (n := n) (by omega)
      have hfn8 := fct_le (n := n + 1) (by omega)
      have hdv := div_lt_fct hv
      have k7 : μ' 120 7 = G := by rw [hf 120 (by decide)]; exact h7
      have e1 : ∀ _ : True, w32 ((G : Int) - g) = ((n + 1 : Nat) : Int) := fun _ => by rw [w32_id (by omega) (by omega)]; omega
      have e2 : ∀ _ : True, iDiv ((fct (n + 1) : Nat) : Int) ((n + 1 : Nat) : Int) = ((fct n : Nat) : Int) := fun _ => by
        rw [iDiv_p (by omega) (by omega) (by omega) (by omega), ← Int.natCast_ediv]
        congr 1
        exact Nat.mul_div_cancel_left (fct n) (by omega)
      have e3 : ∀ _ : True, iDiv (v : Int) ((fct n : Nat) : Int) = ((v / fct n : Nat) : Int) := fun _ => by
        rw [iDiv_p (by omega) (by omega) (by omega) (by omega), ← Int.natCast_ediv]
      have e4 : ∀ _ : True, iRem (v : Int) ((fct n : Nat) : Int) = ((v % fct n : Nat) : Int) := fun _ => by
        rw [iRem_p (by omega) (by omega) (by omega) (by omega), ← Int.natCast_emod]
      have e5 : ∀ _ : True, w32 ((g : Int) + 1) = ((g + 1 : Nat) : Int) := fun _ => by rw [w32_id (by omega) (by omega)]; rfl
      have e6 : ∀ _ : True, w32 (2 + (g : Int)) = 2 + (g : Int) := fun _ => w32_id (by omega) (by omega)
      refine ev_row (fun q => tX10_standsBy_62 _ q b μ' _ _ _ _ _ v6) (ev_call (sX10_gateMany b μ' d (by omega)) (ev_pos (by show (g : Int) < μ' 120 7; rw [k7]; omega) (ev_call (sX10_gateMany b μ' d (by omega)) ?_)))
      dsimp only
      rw [k7, e1 trivial, e2 trivial, e3 trivial, e4 trivial, e5 trivial, e6 trivial]
      refine ev_if0 (by omega) (ev_if0 (by omega) ?_)
      have hnt := sX10_nthOf (s := (s : Int)) (n := ((v / fct n : Nat) : Int)) b μ' (by omega) (by omega) (Int.natCast_nonneg _) (by rw [Int.toNat_natCast]; omega) d (by omega)
      rw [Int.toNat_natCast, Int.toNat_natCast] at hnt
      refine ev_call hnt ?_
      dsimp only
      have hmem : (bL s).getD (v / fct n) 0 ∈ bL s := by
        rw [List.getD_eq_getElem?_getD, List.getElem?_eq_getElem (by omega)]
        exact List.getElem_mem _
      have hm12 := (bL_mem.1 hmem).1
      rw [iAnd_clr (by omega) (by omega) (by omega) (by omega), Int.toNat_natCast, Int.toNat_natCast]
      refine ev_if0 (by omega) (ev_if (by omega) ?_)
      have hbl : bL (s &&& (4294967295 - 2 ^ (bL s).getD (v / fct n) 0)) = (bL s).eraseIdx (v / fct n) := by
        rw [bL_clr hm12, flt_erase _ _ (bL_pw s) (by omega)]
      have hlen : (bL (s &&& (4294967295 - 2 ^ (bL s).getD (v / fct n) 0))).length = n := by
        rw [hbl, List.length_eraseIdx_of_lt (by omega)]; omega
      refine ev_mono (ih (g + 1) _ (v % fct n) _ _ (by omega) (Nat.lt_of_le_of_lt Nat.and_le_left hs4) hlen (Nat.mod_lt _ hfn) (fr_m2 hf (by decide)) (fun x hx => by rw [m2_at, if_neg (by omega)]; exact ho x hx)) (fun vv μ2 ⟨q1, q2, q3, q4⟩ => ⟨q1, q2, fun x hx => ?_, fun h hh => ?_⟩)
      · rw [q3 x (by omega), m2_at, if_neg (by omega)]
      · rw [pmD]
        cases h with
        | zero =>
          rw [List.getD_cons_zero, natD_map, q3 _ (by omega), m2_at, if_pos (by omega)]
        | succ h =>
          have := q4 h (by omega)
          rw [show 2 + ((g + 1 : Nat) : Int) + (h : Int) = 2 + (g : Int) + ((h + 1 : Nat) : Int) by omega] at this
          rw [List.getD_cons_succ, this, hbl, erase_mapN]
  -- the product
  have lpW : ∀ (r j : Nat) (s v : Int), 1 ≤ j → j + r = max G 1 → (∀ v6, Ev (fun q => mRun (mCallN d) kX10_standsBy q 62 [some (mP 96), some (mI k), some (mI s), some (mI v), some (mI (fct G)), some (mI 0), v6] [] (SH, μ, RHO b)) b (fun _ μ' => Fr [133] μ μ' ∧ (∀ x, (x < 2 ∨ 2 + (G : Int) ≤ x) → μ' 133 x = μ 133 x) ∧ ∀ g, 0 ≤ g → g < (G : Int) → μ' 133 (2 + g) = ofL (pmD G (menL gm G) k) g)) → Ev (fun q => mRun (mCallN d) kX10_standsBy q 37 [some (mP 96), some (mI k), some (mI s), some (mI v), some (mI (fct j)), some (mI ((j : Int) + 1)), none] [] (SH, μ, RHO b)) b (fun _ μ' => Fr [133] μ μ' ∧ (∀ x, (x < 2 ∨ 2 + (G : Int) ≤ x) → μ' 133 x = μ 133 x) ∧ ∀ g, 0 ≤ g → g < (G : Int) → μ' 133 (2 + g) = ofL (pmD G (menL gm G) k) g) := by
    intro r
    induction r with
    | zero =>
      intro j s v j1 hj hK
      refine ev_row (fun q => tX10_standsBy_37 _ q b μ _ _ _ _ _) (ev_call (sX10_gateMany b μ d (by omega)) (ev_pos (by show μ 120 7 < (j : Int) + 1; rw [h7]; omega) ?_))
      have e : fct j = fct G := by rw [show j = max G 1 by omega]; exact fct_max G
      rw [e]
      exact hK none
    | succ r ih =>
      intro j s v j1 hj hK
      have hfj := fct_le (n := j + 1) (by omega)
      refine ev_row (fun q => tX10_standsBy_37 _ q b μ _ _ _ _ _) (ev_call (sX10_gateMany b μ d (by omega)) (ev_neg (by show ¬ (μ 120 7 < (j : Int) + 1); rw [h7]; omega) ?_))
      rw [fct_mul, w32_id (by omega) (by omega), show w32 ((j : Int) + 1 + 1) = ((j + 1 : Nat) : Int) + 1 from by rw [w32_id (by omega) (by omega)]; rfl]
      exact ih (j + 1) s v (by omega) (by omega) hK
  obtain ⟨⟨b0, b1⟩, hbit⟩ := orB_bits (f := μ 140) G 0 0 (fun g g0 g1 => hr g g0 (by omega)) (by decide) (by decide)
  have hb1 : orB (μ 140) G 0 0 < 4096 := b1
  have hset : (bL (orB (μ 140) G 0 0).toNat).map (fun j : Nat => (j : Int)) = menL gm G := by
    unfold bL menL
    rw [List.filter_map]
    congr 1
    apply List.filter_congr
    intro x hx
    have hx' := List.mem_range.1 hx
    have h1 := hbit x (by omega)
    have h2 := hs x (by omega) (by omega)
    have h3 : (orB (μ 140) G 0 0).toNat.testBit x = true ↔ isAt gm x G = true := by
      rw [← h2]
      constructor
      · intro q
        rcases h1.1 q with q | ⟨g, g0, g1, g2⟩
        · exact absurd q (by unfold bI; simp)
        · exact ⟨g, g0, by omega, g2⟩
      · rintro ⟨g, g0, g1, g2⟩
        exact h1.2 (Or.inr ⟨g, g0, by omega, g2⟩)
    show (orB (μ 140) G 0 0).toNat.testBit x = isAt gm x G
    rw [Bool.eq_iff_iff]
    exact h3
  have lpO : ∀ (r : Nat) (i acc : Int), 0 ≤ i → i + r = G → orB (μ 140) r i acc = orB (μ 140) G 0 0 → Ev (fun q => mRun (mCallN d) kX10_standsBy q 4 [some (mP 96), some (mI k), some (mI acc), some (mI i), none, none, none] [] (SH, μ, RHO b)) b (fun _ μ' => Fr [133] μ μ' ∧ (∀ x, (x < 2 ∨ 2 + (G : Int) ≤ x) → μ' 133 x = μ 133 x) ∧ ∀ g, 0 ≤ g → g < (G : Int) → μ' 133 (2 + g) = ofL (pmD G (menL gm G) k) g) := by
    intro r
    induction r with
    | zero =>
      intro i acc i0 hi he
      have he' : acc = orB (μ 140) G 0 0 := he
      refine ev_row (fun q => tX10_standsBy_4 _ q b μ _ _ _) (ev_call (sX10_gateMany b μ d (by omega)) (ev_neg (by show ¬ (i < μ 120 7); rw [h7]; omega) ?_))
      have hln : (bL (orB (μ 140) G 0 0).toNat).length = G := by
        have := congrArg List.length hset
        rw [List.length_map, hl] at this
        exact this
      refine lpW (max G 1 - 1) 1 acc k (by omega) (by omega) (fun v6 => ?_)
      have hg := lpG G 0 (orB (μ 140) G 0 0).toNat k v6 μ (by omega) (by omega) hln hk fr_rfl (fun x _ => rfl)
      rw [show (((orB (μ 140) G 0 0).toNat : Nat) : Int) = acc by omega, hset] at hg
      refine ev_mono hg (fun vv μ2 ⟨q1, q2, _, q4⟩ => ⟨q1, q2, fun g g0 g1 => ?_⟩)
      have := q4 g.toNat (by omega)
      rw [show 2 + ((0 : Nat) : Int) + ((g.toNat : Nat) : Int) = 2 + g by omega] at this
      exact this
    | succ r ih =>
      intro i acc i0 hi he
      have e1 : w32 (i + 1) = i + 1 := w32_id (by omega) (by omega)
      refine ev_row (fun q => tX10_standsBy_4 _ q b μ _ _ _) (ev_call (sX10_gateMany b μ d (by omega)) (ev_pos (by show i < μ 120 7; rw [h7]; omega) (ev_if (by omega) ?_)))
      dsimp only
      rw [e1]
      exact ih (i + 1) _ (by omega) (by omega) he
  exact cal_ev (fun r => call_X10_standsBy d b μ k) (ev_row (fun q => tX10_standsBy_0 _ q b μ k) (lpO G 0 0 (by decide) (by omega) rfl))
