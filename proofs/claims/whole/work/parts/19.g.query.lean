/-! ===== pairs that change nothing ===== -/
theorem p_fault {b : Bool} {μ : Nat → Int → Int} (w : Int) (hR : R b μ) : ∀ d, 1 ≤ d → PairA d b μ 218 37 [mI w] := fun d hd => pair_alike (q_fault b μ w hR.2.2.2.1.2.1.1 hR.2.2.2.1.2.1.2 d hd) hR
theorem p_octet {b : Bool} {μ : Nat → Int → Int} (w : Int) (hR : R b μ) : ∀ d, 2 ≤ d → PairA d b μ 242 94 [mI w] := fun d hd => pair_alike (q_octet b μ w hR.2.2.2.1.2.2.2.2.1.1.1 hR.2.2.2.1.2.2.2.2.1.1.2.2 hR.2.2.2.1.2.2.2.2.1.2 d hd) hR
theorem p_gate {b : Bool} {μ : Nat → Int → Int} (g w : Int) (hR : R b μ) : ∀ d, 3 ≤ d → PairA d b μ 227 46 [mI g, mI w] := fun d hd => pair_alike (q_gate b μ g w hR.1.1 hR.1.2.1 hR.2.1.1 d hd) hR
theorem p_person {b : Bool} {μ : Nat → Int → Int} (g w : Int) (hR : R b μ) : ∀ d, 3 ≤ d → PairA d b μ 246 101 [mI g, mI w] := fun d hd => pair_alike (q_person b μ g w hR.1.1 hR.1.2.2.2.2.1 hR.2.1.1 d hd) hR
theorem p_man {b : Bool} {μ : Nat → Int → Int} (g w : Int) (hR : R b μ) : ∀ d, 4 ≤ d → PairA d b μ 240 82 [mI g, mI w] := fun d hd => pair_alike (q_man b μ g w hR.1.1 hR.1.2.2.2.1 hR.2.1.1 d hd) hR
theorem p_has {b : Bool} {μ : Nat → Int → Int} (w : Int) (hR : R b μ) : ∀ d, 3 ≤ d → PairA d b μ 230 53 [mI w] := fun d hd => pair_alike (q_has b μ w hR.1.1 hR.1.2.2.2.1 hR.2.1.1 hR.2.2.1.1.1 (fun p p0 p1 => hR.2.1.2.1.2.2.2 p p0 (by have := Rcnt_C hR.1.1; omega)) d hd) hR
/-! letters -/
theorem pk5_in : ∀ ls : List Int, (∀ c ∈ ls, 1 ≤ c ∧ c ≤ 26) → 0 ≤ pk5 ls ∧ pk5 ls < ((32 ^ ls.length : Nat) : Int)
  | [], _ => ⟨by show (0 : Int) ≤ 0; decide, by show (0 : Int) < ((1 : Nat) : Int); decide⟩
  | c :: r, h => by
    have h1 := pk5_in r (fun x hx => h x (List.mem_cons_of_mem c hx))
    have h2 := h c List.mem_cons_self
    rw [pk5, List.length_cons, Nat.pow_succ]
    omega
theorem pk5_dig : ∀ (ls : List Int) (k : Nat), (∀ c ∈ ls, 1 ≤ c ∧ c ≤ 26) → (pk5 ls).toNat / 32 ^ k % 32 = (ls.getD k 0).toNat
  | [], k, _ => by rw [pk5]; simp
  | c :: r, 0, h => by
    have h1 := pk5_in r (fun x hx => h x (List.mem_cons_of_mem c hx))
    have h2 := h c List.mem_cons_self
    rw [pk5, List.getD_cons_zero]
    omega
  | c :: r, k + 1, h => by
    have h1 := pk5_in r (fun x hx => h x (List.mem_cons_of_mem c hx))
    have h2 := h c List.mem_cons_self
    have h3 := pk5_dig r k (fun x hx => h x (List.mem_cons_of_mem c hx))
    rw [List.getD_cons_succ, ← h3, pk5, Nat.pow_succ, Nat.mul_comm, ← Nat.div_div_eq_div_mul]
    congr 2
    omega
theorem letter_c {ls : List Int} {k : Int} (h : ∀ c ∈ ls, 1 ≤ c ∧ c ≤ 26) (hl : ls.length ≤ 6) (h0 : 0 ≤ k) (h1 : k < 6) : iAnd (iShr (pk5 ls) (w32 (5 * k))) 31 = ls.getD k.toNat 0 := by
  have h2 := pk5_in ls h
  have h3 : (32 : Nat) ^ ls.length ≤ 32 ^ 6 := Nat.pow_le_pow_right (by decide) hl
  rw [w32_id (by omega) (by omega), iShr_n h2.1 (by omega) (by omega) (by omega)]
  have hlt : (pk5 ls).toNat >>> (5 * k).toNat < 2147483648 := by
    rw [Nat.shiftRight_eq_div_pow]
    exact Nat.lt_of_le_of_lt (Nat.div_le_self _ _) (by omega)
  rw [iAnd_n (Int.natCast_nonneg _) (Int.ofNat_lt.mpr hlt) (by decide) (by decide)]
  have e : (((pk5 ls).toNat >>> (5 * k).toNat : Nat) : Int).toNat &&& (31 : Int).toNat = (pk5 ls).toNat / 32 ^ k.toNat % 32 := by
    show ((pk5 ls).toNat >>> (5 * k).toNat) &&& (2 ^ 5 - 1) = _
    rw [Nat.and_two_pow_sub_one_eq_mod, Nat.shiftRight_eq_div_pow, show (5 * k).toNat = 5 * k.toNat by omega, Nat.pow_mul]
  rw [e, pk5_dig ls k.toNat h]
  have h4 : 0 ≤ ls.getD k.toNat 0 := by
    rw [List.getD_eq_getElem?_getD]
    cases hq : ls[k.toNat]? with
    | none => decide
    | some c => have := h c (List.mem_of_getElem? hq); show 0 ≤ c; omega
  omega
def pkR : List Int → Int
  | [] => 0
  | c :: r => c + 27 * pkR r
theorem pk27_snoc (c : Int) : ∀ (l : List Int) (v : Int), pk27 v (l ++ [c]) = 27 * pk27 v l + c
  | [], v => rfl
  | a :: l, v => by rw [List.cons_append, pk27, pk27]; exact pk27_snoc c l _
theorem pk27_rev : ∀ rs : List Int, pk27 0 rs.reverse = pkR rs
  | [] => rfl
  | c :: r => by rw [List.reverse_cons, pk27_snoc, pk27_rev r, pkR]; omega
theorem pkR_in : ∀ rs : List Int, (∀ c ∈ rs, 1 ≤ c ∧ c ≤ 26) → 0 ≤ pkR rs ∧ pkR rs < ((27 ^ rs.length : Nat) : Int) ∧ (rs ≠ [] → 0 < pkR rs)
  | [], _ => ⟨by show (0 : Int) ≤ 0; decide, by show (0 : Int) < ((1 : Nat) : Int); decide, fun h => absurd rfl h⟩
  | c :: r, h => by
    have h1 := pkR_in r (fun x hx => h x (List.mem_cons_of_mem c hx))
    have h2 := h c List.mem_cons_self
    rw [pkR, List.length_cons, Nat.pow_succ]
    refine ⟨by omega, by omega, fun _ => by omega⟩
theorem pkR_div {c : Int} {r : List Int} (h : 1 ≤ c ∧ c ≤ 26) : pkR (c :: r) / 27 = pkR r ∧ pkR (c :: r) % 27 = c := by rw [pkR]; omega
theorem eX10_letter_69 {Φ : mOrc} {b : Bool} {μ : Nat → Int → Int} {v1 v2 k v4 : Int} {Q : Int → (Nat → Int → Int) → Prop} : ∀ (rs : List Int) (n : Int), (∀ c ∈ rs, 1 ≤ c ∧ c ≤ 26) → rs.length ≤ 6 → 0 ≤ n → n + rs.length ≤ 100 → Ev (fun j => mBr (k < n + rs.length) (mRun Φ kX10_letter j 104 [some (mP 96), some (mI v1), some (mI v2), some (mI k), some (mJ v4), none, some (mI (n + rs.length)), some (mI (w32 (n + rs.length - 1))), none] [] (SH, μ, RHO b)) (some (0, SH, μ, RHO b))) b Q → Ev (fun j => mRun Φ kX10_letter j 69 [some (mP 96), some (mI v1), some (mI v2), some (mI k), some (mJ v4), none, some (mI n), some (mJ (pkR rs)), none] [] (SH, μ, RHO b)) b Q
  | [], n, h, hl, h0, h1, hE => by
    refine ev_row (fun j => tX10_letter_69 _ j b μ v1 v2 k v4 n _) (ev_neg (fun h => ?_) ?_)
    · have := lc_gt.1 h; exact absurd this (by decide)
    · rw [show n + (([] : List Int).length : Int) = n by show n + ((0 : Nat) : Int) = n; omega] at hE
      exact hE
  | c :: r, n, h, hl, h0, h1, hE => by
    have hp := pkR_in (c :: r) h
    have hd := pkR_div (r := r) (h c List.mem_cons_self)
    have hpw : (27 : Nat) ^ (c :: r).length ≤ 27 ^ 6 := Nat.pow_le_pow_right (by decide) hl
    rw [List.length_cons] at h1
    refine ev_row (fun j => tX10_letter_69 _ j b μ v1 v2 k v4 n _) (ev_pos (lc_gt.2 (hp.2.2 (by simp))) ?_)
    rw [lDiv_p hp.1 (by omega) (by decide) (by decide), hd.1, w32_id (by omega) (by omega)]
    refine eX10_letter_69 r (n + 1) (fun x hx => h x (List.mem_cons_of_mem c hx)) (by rw [List.length_cons] at hl; omega) (by omega) (by rw [List.length_cons] at hl; omega) ?_
    rw [show n + 1 + (r.length : Int) = n + ((c :: r).length : Int) by rw [List.length_cons]; omega]
    exact hE
theorem eX10_letter_104 {Φ : mOrc} {b : Bool} {μ : Nat → Int → Int} {v1 v2 k v6 : Int} (h0 : 0 ≤ k) : ∀ (m : Nat) (rs : List Int), (∀ c ∈ rs, 1 ≤ c ∧ c ≤ 26) → rs.length ≤ 6 → m < rs.length → k + m < 100 → Ev (fun j => mRun Φ kX10_letter j 104 [some (mP 96), some (mI v1), some (mI v2), some (mI k), some (mJ (pkR rs)), none, some (mI v6), some (mI (k + m)), none] [] (SH, μ, RHO b)) b (fun v μ' => μ' = μ ∧ v = rs.getD m 0)
  | 0, rs, h, hl, hm, hk => by
    have hp := pkR_in rs h
    have hpw : (27 : Nat) ^ rs.length ≤ 27 ^ 6 := Nat.pow_le_pow_right (by decide) hl
    refine ev_row (fun j => tX10_letter_104 _ j b μ v1 v2 k _ v6 _) (ev_neg (by omega) (ev_ret ⟨rfl, ?_⟩))
    rw [lRem_p hp.1 (by omega) (by decide) (by decide), l2i_id (by omega) (by omega)]
    cases rs with
    | nil => exact absurd hm (by simp)
    | cons c r => rw [(pkR_div (h c List.mem_cons_self)).2, List.getD_cons_zero]
  | m + 1, rs, h, hl, hm, hk => by
    have hp := pkR_in rs h
    have hpw : (27 : Nat) ^ rs.length ≤ 27 ^ 6 := Nat.pow_le_pow_right (by decide) hl
    cases rs with
    | nil => exact absurd hm (by simp)
    | cons c r =>
      refine ev_row (fun j => tX10_letter_104 _ j b μ v1 v2 k _ v6 _) (ev_pos (by omega) ?_)
      rw [lDiv_p hp.1 (by omega) (by decide) (by decide), (pkR_div (h c List.mem_cons_self)).1, w32_id (by omega) (by omega), show k + ((m + 1 : Nat) : Int) + -1 = k + (m : Int) by omega, List.getD_cons_succ]
      rw [List.length_cons] at hm hl
      exact eX10_letter_104 h0 m r (fun x hx => h x (List.mem_cons_of_mem c hx)) (by omega) (by omega) (by omega)
theorem getD_rev {ls : List Int} {k : Nat} (h : k < ls.length) : ls.reverse.getD (ls.length - 1 - k) 0 = ls.getD k 0 := by
  rw [List.getD_eq_getElem?_getD, List.getD_eq_getElem?_getD, List.getElem?_reverse (by omega)]
  congr 2
  omega
/-- the reference's letter -/
theorem eX10_letter {Φ : mOrc} {b : Bool} {μ : Nat → Int → Int} {v1 v2 k : Int} {ls : List Int} (h : ∀ c ∈ ls, 1 ≤ c ∧ c ≤ 26) (hl : ls.length ≤ 6) (h0 : 0 ≤ k) (h1 : k < 6) : Ev (fun j => mRun Φ kX10_letter j 69 [some (mP 96), some (mI v1), some (mI v2), some (mI k), some (mJ (pk27 0 ls)), none, some (mI 0), some (mJ (pk27 0 ls)), none] [] (SH, μ, RHO b)) b (fun v μ' => μ' = μ ∧ v = ls.getD k.toNat 0) := by
  have e : pk27 0 ls = pkR ls.reverse := by rw [← pk27_rev, List.reverse_reverse]
  have hr : ∀ c ∈ ls.reverse, 1 ≤ c ∧ c ≤ 26 := fun c hc => h c (List.mem_reverse.1 hc)
  have hlr : ls.reverse.length ≤ 6 := by rw [List.length_reverse]; exact hl
  rw [e]
  refine eX10_letter_69 ls.reverse 0 hr hlr (by decide) (by omega) (ev_br (fun c => ?_) (fun c => ?_))
  · rw [List.length_reverse] at c ⊢
    have hm := eX10_letter_104 (Φ := Φ) (b := b) (μ := μ) (v1 := v1) (v2 := v2) (v6 := 0 + (ls.length : Int)) h0 (ls.length - 1 - k.toNat) ls.reverse hr hlr (by rw [List.length_reverse]; omega) (by omega)
    rw [getD_rev (by omega), show k + ((ls.length - 1 - k.toNat : Nat) : Int) = 0 + (ls.length : Int) - 1 by omega] at hm
    rw [w32_id (by omega) (by omega)]
    exact hm
  · rw [List.length_reverse] at c
    refine ev_ret ⟨rfl, ?_⟩
    rw [List.getD_eq_getElem?_getD, List.getElem?_eq_none (by omega)]; rfl
theorem p_letter {b : Bool} {μ : Nat → Int → Int} (kd w k : Int) (hR : R b μ) : ∀ d, 2 ≤ d → PairA d b μ 238 79 [mI kd, mI w, mI k] := deep fun d hd => by
  have hcn := hR.1.1
  obtain ⟨⟨a1, a2, a3⟩, ⟨b1, b2, b3⟩, -, ⟨d1, d2, d3⟩⟩ := hcn
  have hA := sX9_within kd 3 b μ d hd
  have hA' := sX10_isIn kd 0 2 b μ d hd
  have hB := sX9_within k 6 b μ d hd
  have hB' := sX10_isIn k 0 5 b μ d hd
  have n0 : ¬ ((1 : Int) = 0) := by decide
  have no : ∀ {v : Int} {μ' : Nat → Int → Int}, Cal (d + 1) 238 [mP 0, mI kd, mI w, mI k] b μ (fun v μ' => μ' = μ ∧ v = -1) → Cal (d + 1) 79 [mP 96, mI kd, mI w, mI k] b μ (fun v μ' => μ' = μ ∧ v = -1) → PairA (d + 1) b μ 238 79 [mI kd, mI w, mI k] := fun ⟨v, μ1, h1, h2, h3⟩ ⟨v', μ2, h1', h2', h3'⟩ => by
    subst h2 h3 h2' h3'; exact ⟨_, _, _, h1, h1', hR⟩
  have bad : ∀ μ', Ev (fun n => mRun (mCallN d) kX9_letter n 40 [some (mP 0), some (mI kd), some (mI w), some (mI k)] [] (SH, μ', RHO b)) b (fun v μ2 => μ2 = μ' ∧ v = -1) := fun μ' => ev_row (fun n => tX9_letter_40 _ n b μ' kd w k) (ev_ret ⟨rfl, rfl⟩)
  have bad' : ∀ μ', Ev (fun n => mRun (mCallN d) kX10_letter n 44 [some (mP 96), some (mI kd), some (mI w), some (mI k), none, none, none, none, none] [] (SH, μ', RHO b)) b (fun v μ2 => μ2 = μ' ∧ v = -1) := fun μ' => ev_row (fun n => tX10_letter_44 _ n b μ' kd w k) (ev_ret ⟨rfl, rfl⟩)
  by_cases e1 : 0 ≤ kd ∧ kd < 3
  · rw [t01_pos e1] at hA
    rw [t01_pos (by omega)] at hA'
    have main : ∀ (cc : Int) (q : Nat) (o : Int), xNamed.getD kd.toNat 0 = cc → (0 ≤ cc ∧ cc < 4) → RHO b (tw b + 2) cc = some q → shp q = (0, 12) → μ 120 (4 + kd) = μ (tw b + 1) cc → 0 ≤ μ (tw b + 1) cc → μ (tw b + 1) cc ≤ 12 → 36 + 12 * kd = o → (∀ i, 0 ≤ i → i < μ (tw b + 1) cc → Rname (μ q i) (μ 121 (o + i))) → PairA (d + 1) b μ 238 79 [mI kd, mI w, mI k] := fun cc q o hx hx2 hq hsq hcc hc0 hc12 ho hnm => by
      have hD := sX9_within w (μ (tw b + 1) cc) b μ d hd
      have hD' := sX10_isIn w 0 (μ (tw b + 1) cc - 1) b μ d hd
      have w1 : w32 (4 + kd) = 4 + kd := w32_id (by omega) (by omega)
      have w2 : w32 (μ (tw b + 1) cc - 1) = μ (tw b + 1) cc - 1 := w32_id (by omega) (by omega)
      have w3 : w32 (12 * kd) = 12 * kd := w32_id (by omega) (by omega)
      have w4 : w32 (36 + 12 * kd) = o := by rw [w32_id (by omega) (by omega)]; exact ho
      by_cases e3 : 0 ≤ w ∧ w < μ (tw b + 1) cc
      · rw [t01_pos e3] at hD
        rw [t01_pos (by omega)] at hD'
        by_cases e2 : 0 ≤ k ∧ k < 6
        · rw [t01_pos e2] at hB
          rw [t01_pos (by omega)] at hB'
          obtain ⟨ls, l1, l2, l3, l4, l5⟩ := hnm w e3.1 e3.2
          have w5 : w32 (o + w) = o + w := w32_id (by omega) (by omega)
          have h1 : Cal (d + 1) 238 [mP 0, mI kd, mI w, mI k] b μ (fun v μ' => μ' = μ ∧ v = ls.getD k.toNat 0) := by
            refine cal_ev (fun r => call_X9_letter d b μ kd w k) ?_
            refine ev_row (fun n => tX9_letter_0 _ n b μ kd w k) (ev_call hA (ev_neg n0 (ev_call hB (ev_neg n0 (ev_if e1 (ev_if (by rw [hx]; exact hx2) ?_))))))
            dsimp only
            rw [hx]
            refine ev_call hD (ev_neg n0 (ev_if e1 (ev_if hx2 ?_)))
            dsimp only
            rw [hq]
            refine ev_bif (arr_of hsq) (ev_if (by rw [shape_of hsq]; show 0 ≤ w ∧ w < ((12 : Nat) : Int); omega) (ev_ret ⟨rfl, ?_⟩))
            rw [l4]; exact letter_c l3 l2 e2.1 e2.2
          have h2 : Cal (d + 1) 79 [mP 96, mI kd, mI w, mI k] b μ (fun v μ' => μ' = μ ∧ v = ls.getD k.toNat 0) := by
            refine cal_ev (fun r => call_X10_letter d b μ kd w k) ?_
            refine ev_row (fun n => tX10_letter_0 _ n b μ kd w k) (ev_call hA' (ev_neg n0 (ev_if (by rw [w1]; omega) ?_)))
            dsimp only
            rw [w1, hcc, w2, w3, w4, w5]
            refine ev_call hD' (ev_neg n0 (ev_call hB' (ev_neg n0 (ev_if (by omega) ?_))))
            dsimp only
            rw [l5]
            exact eX10_letter l3 l2 e2.1 e2.2
          obtain ⟨v, μ1, h1, h2', h3⟩ := h1
          obtain ⟨v', μ2, h1', h2'', h3'⟩ := h2
          subst h2' h2''
          rw [h3', ← h3] at h1'
          exact ⟨_, _, _, h1, h1', hR⟩
        · rw [t01_neg e2] at hB
          rw [t01_neg (by omega)] at hB'
          refine no (v := 0) (μ' := μ) (cal_ev (fun r => call_X9_letter d b μ kd w k) ?_) (cal_ev (fun r => call_X10_letter d b μ kd w k) ?_)
          · exact ev_row (fun n => tX9_letter_0 _ n b μ kd w k) (ev_call hA (ev_neg n0 (ev_call hB (ev_pos rfl (bad μ)))))
          · refine ev_row (fun n => tX10_letter_0 _ n b μ kd w k) (ev_call hA' (ev_neg n0 (ev_if (by rw [w1]; omega) ?_)))
            dsimp only
            rw [w1, hcc, w2]
            exact ev_call hD' (ev_neg n0 (ev_call hB' (ev_pos rfl (bad' μ))))
      · rw [t01_neg e3] at hD
        rw [t01_neg (by omega)] at hD'
        refine no (v := 0) (μ' := μ) (cal_ev (fun r => call_X9_letter d b μ kd w k) ?_) (cal_ev (fun r => call_X10_letter d b μ kd w k) ?_)
        · refine ev_row (fun n => tX9_letter_0 _ n b μ kd w k) (ev_call hA (ev_neg n0 (ev_call hB ?_)))
          refine ev_br (fun _ => bad μ) (fun _ => ev_if e1 (ev_if (by rw [hx]; exact hx2) ?_))
          dsimp only
          rw [hx]
          exact ev_call hD (ev_pos rfl (bad μ))
        · refine ev_row (fun n => tX10_letter_0 _ n b μ kd w k) (ev_call hA' (ev_neg n0 (ev_if (by rw [w1]; omega) ?_)))
          dsimp only
          rw [w1, hcc, w2]
          exact ev_call hD' (ev_pos rfl (bad' μ))
    obtain ⟨nm1, nm2, nm3⟩ := hR.1.2.2.2.2.2.2.1
    have hk : kd = 0 ∨ kd = 1 ∨ kd = 2 := by omega
    rcases hk with e | e | e
    · subst e
      exact main 0 (tw b + 3) 36 rfl (by decide) (by cases b <;> rfl) (by cases b <;> rfl) a1 a2 (by omega) (by decide) nm1
    · subst e
      exact main 1 (tw b + 4) 48 rfl (by decide) (by cases b <;> rfl) (by cases b <;> rfl) b1 b2 (by omega) (by decide) nm2
    · subst e
      exact main 3 (tw b + 6) 60 rfl (by decide) (by cases b <;> rfl) (by cases b <;> rfl) d1 d2 (by omega) (by decide) nm3
  · rw [t01_neg e1] at hA
    rw [t01_neg (by omega)] at hA'
    refine no (v := 0) (μ' := μ) (cal_ev (fun r => call_X9_letter d b μ kd w k) ?_) (cal_ev (fun r => call_X10_letter d b μ kd w k) ?_)
    · exact ev_row (fun n => tX9_letter_0 _ n b μ kd w k) (ev_call hA (ev_pos rfl (bad μ)))
    · exact ev_row (fun n => tX10_letter_0 _ n b μ kd w k) (ev_call hA' (ev_pos rfl (bad' μ)))
