theorem p_undo {b : Bool} {μ : Nat → Int → Int} (hR : R b μ) : ∀ d, 2 ≤ d → PairA d b μ 256 129 [] := fun d hd => by
  obtain ⟨⟨c1, c2, c3⟩, ⟨n1, n2, n3⟩, hh1, hh2⟩ := hR.2.2.1
  have h1 := sX9_undo b μ n2 n3 c2 c3 d hd
  by_cases e : μ 50 2 = 0
  · have h2 := sX10_undo b μ (by omega) (by omega) (by omega) (by omega) d (by omega)
    rw [if_pos e] at h1
    rw [if_pos (by omega)] at h2
    exact ⟨0, μ, μ, h1, h2, hR⟩
  · rw [if_neg e] at h1
    obtain ⟨p0, p1⟩ := pv20_in n2 n3
    have kc : ∀ a, a ≠ 44 → a ≠ 46 → a ≠ 74 → a ≠ 50 → m2 (m2 (mCp (m2 (m2 μ 50 1 (pv20 (μ 50 1))) 50 2 (μ 50 2 - 1)) (52 + (pv20 (μ 50 1)).toNat) 74 0 0 62) 44 4 0) 46 4 0 a = μ a := fun a a1 a2 a3 a4 => by rw [m2_ne a2, m2_ne a1, mCp_ne a3, m2_ne a4, m2_ne a4]
    have k74 : ∀ i, 0 ≤ i → i < 62 → m2 (m2 (mCp (m2 (m2 μ 50 1 (pv20 (μ 50 1))) 50 2 (μ 50 2 - 1)) (52 + (pv20 (μ 50 1)).toNat) 74 0 0 62) 44 4 0) 46 4 0 74 i = μ (52 + (pv20 (μ 50 1)).toNat) i := fun i i0 i1 => by
      rw [m2_ne (by decide), m2_ne (by decide), mCp_at, if_pos (by omega), m2_ne (by omega), m2_ne (by omega)]; congr 1; omega
    have k501 : m2 (m2 (mCp (m2 (m2 μ 50 1 (pv20 (μ 50 1))) 50 2 (μ 50 2 - 1)) (52 + (pv20 (μ 50 1)).toNat) 74 0 0 62) 44 4 0) 46 4 0 50 1 = pv20 (μ 50 1) := by
      rw [m2_ne (by decide), m2_ne (by decide), mCp_ne (by decide), m2_at, if_neg (by decide), m2_at, if_pos rfl]
    have k502 : m2 (m2 (mCp (m2 (m2 μ 50 1 (pv20 (μ 50 1))) 50 2 (μ 50 2 - 1)) (52 + (pv20 (μ 50 1)).toNat) 74 0 0 62) 44 4 0) 46 4 0 50 2 = μ 50 2 - 1 := by
      rw [m2_ne (by decide), m2_ne (by decide), mCp_ne (by decide), m2_at, if_pos rfl]
    have k44 : m2 (m2 (mCp (m2 (m2 μ 50 1 (pv20 (μ 50 1))) 50 2 (μ 50 2 - 1)) (52 + (pv20 (μ 50 1)).toNat) 74 0 0 62) 44 4 0) 46 4 0 44 4 = 0 := by rw [m2_ne (by decide), m2_at, if_pos rfl]
    have k46 : m2 (m2 (mCp (m2 (m2 μ 50 1 (pv20 (μ 50 1))) 50 2 (μ 50 2 - 1)) (52 + (pv20 (μ 50 1)).toNat) 74 0 0 62) 44 4 0) 46 4 0 46 4 = 0 := by rw [m2_at, if_pos rfl]
    generalize m2 (m2 (mCp (m2 (m2 μ 50 1 (pv20 (μ 50 1))) 50 2 (μ 50 2 - 1)) (52 + (pv20 (μ 50 1)).toNat) 74 0 0 62) 44 4 0) 46 4 0 = μ1 at h1 kc k74 k501 k502 k44 k46
    have k96 : μ1 96 = μ 96 := kc 96 (by decide) (by decide) (by decide) (by decide)
    have h2 := sX10_undo b μ1 (by rw [k96]; omega) (by rw [k96]; omega) (by rw [k96]; omega) (by rw [k96]; omega) d (by omega)
    rw [k96, if_neg (by omega), n1, c1] at h2
    have j96 : ∀ j, j ≠ 58 → j ≠ 59 → m2 (m2 (mCp μ1 138 133 (62 * μ 50 1) 0 62) 96 59 (pv20 (μ 50 1))) 96 58 (μ 50 2 - 1) 96 j = μ 96 j := fun j a1 a2 => by rw [m2_at, if_neg a1, m2_at, if_neg a2, mCp_ne (by decide), k96]
    have j58 : m2 (m2 (mCp μ1 138 133 (62 * μ 50 1) 0 62) 96 59 (pv20 (μ 50 1))) 96 58 (μ 50 2 - 1) 96 58 = μ 50 2 - 1 := by rw [m2_at, if_pos rfl]
    have j59 : m2 (m2 (mCp μ1 138 133 (62 * μ 50 1) 0 62) 96 59 (pv20 (μ 50 1))) 96 58 (μ 50 2 - 1) 96 59 = pv20 (μ 50 1) := by rw [m2_at, if_neg (by decide), m2_at, if_pos rfl]
    have jc : ∀ a, a ≠ 96 → a ≠ 133 → m2 (m2 (mCp μ1 138 133 (62 * μ 50 1) 0 62) 96 59 (pv20 (μ 50 1))) 96 58 (μ 50 2 - 1) a = μ1 a := fun a a1 a2 => by rw [m2_ne a1, m2_ne a1, mCp_ne a2]
    have j133 : ∀ i, 0 ≤ i → i < 62 → m2 (m2 (mCp μ1 138 133 (62 * μ 50 1) 0 62) 96 59 (pv20 (μ 50 1))) 96 58 (μ 50 2 - 1) 133 i = μ 138 (62 * μ 50 1 + i) := fun i i0 i1 => by
      rw [m2_ne (by decide), m2_ne (by decide), mCp_at, if_pos (by omega), kc 138 (by decide) (by decide) (by decide) (by decide)]; congr 1; omega
    generalize m2 (m2 (mCp μ1 138 133 (62 * μ 50 1) 0 62) 96 59 (pv20 (μ 50 1))) 96 58 (μ 50 2 - 1) = μ2 at h2 j96 j58 j59 jc j133
    refine ⟨1, μ1, μ2, h1, h2, ?_⟩
    have kk : ∀ a, a ≠ 44 → a ≠ 46 → a ≠ 74 → a ≠ 50 → a ≠ 96 → a ≠ 133 → μ2 a = μ a := fun a a1 a2 a3 a4 a5 a6 => by rw [jc a a5 a6, kc a a1 a2 a3 a4]
    have ht : ∀ a, a ∈ twL b → μ2 a = μ a := fun a ha => by
      have := twL_or ha
      have := tw_or b
      exact kk a (by omega) (by omega) (by omega) (by omega) (by omega) (by omega)
    have hC := Rcnt_C hR.1.1
    obtain ⟨r1, r2, r3, r4, r5⟩ := hR
    have hnx : nx20 (pv20 (μ 50 1)) = μ 50 1 := by unfold nx20 pv20; (repeat' split) <;> omega
    have m74 : ∀ i, 0 ≤ i → i < 62 → μ2 74 i = μ (52 + (pv20 (μ 50 1)).toNat) i := fun i i0 i1 => by rw [jc 74 (by decide) (by decide)]; exact k74 i i0 i1
    have hpe : ((μ 50 1 - 1) % 20).toNat = (pv20 (μ 50 1)).toNat := by unfold pv20; split <;> omega
    refine ⟨Rtw_same ht r1, ⟨?_, ?_⟩, ⟨?_, ?_, ?_, ?_⟩, ?_, ?_⟩
    · have := hh1 (pv20 (μ 50 1)) p0 p1
      rw [hnx] at this
      exact Rrow_congr m74 j133 this
    · have := hh2 1 (by omega) (by omega)
      rw [hpe] at this
      exact rowR_same ht (rowOK_congr hC m74 this)
    · rw [j58, jc 50 (by decide) (by decide), k502]; omega
    · rw [j59, jc 50 (by decide) (by decide), k501]; omega
    · intro j j0 j1
      rw [kk (52 + j.toNat) (by omega) (by omega) (by omega) (by omega) (by omega) (by omega), kk 138 (by decide) (by decide) (by decide) (by decide) (by decide) (by decide)]
      exact hh1 j j0 j1
    · intro i i0 i1
      rw [jc 50 (by decide) (by decide), k502] at i1
      rw [jc 50 (by decide) (by decide), k501]
      have hx : (pv20 (μ 50 1) - i) % 20 = (μ 50 1 - (i + 1)) % 20 := by unfold pv20; split <;> omega
      rw [hx, kk _ (by omega) (by omega) (by omega) (by omega) (by omega) (by omega)]
      exact rowR_same ht (hh2 (i + 1) (by omega) (by omega))
    · refine Rmsc_same (by rw [ht (tw b + 1) (by simp [twL])]) (fun a ha => ?_) (fun j hj => ?_) (fun a a0 a1 => kk a (by omega) (by omega) (by omega) (by omega) (by omega) (by omega)) r4
      · simp only [List.mem_cons, List.not_mem_nil, or_false] at ha
        exact kk a (by omega) (by omega) (by omega) (by omega) (by omega) (by omega)
      · simp only [List.mem_cons, List.not_mem_nil, or_false] at hj
        exact j96 j (by omega) (by omega)
    · have m44 : μ2 44 4 = 0 := by rw [jc 44 (by decide) (by decide)]; exact k44
      have m46 : μ2 46 4 = 0 := by rw [jc 46 (by decide) (by decide)]; exact k46
      exact ⟨Or.inl m44, Or.inl m46, fun h => absurd h (by rw [m44]; decide), fun h => absurd h (by rw [m46]; decide)⟩
/-! lots -/
theorem bv64_nat {a : Int} (h1 : 0 ≤ a) (h2 : a < 9223372036854775808) : (Int64.ofInt a).toBitVec.toNat = a.toNat := by
  rw [Int64.toBitVec_ofInt, BitVec.toNat_ofInt]
  omega
theorem lAnd_31 {a : Int} (h1 : 0 ≤ a) (h2 : a < 9223372036854775808) : lAnd a 2147483647 = a % 2147483648 := by
  have h : (Int64.ofInt a &&& Int64.ofInt 2147483647).toBitVec.toNat = a.toNat % 2147483648 := by
    rw [Int64.toBitVec_and, BitVec.toNat_and, bv64_nat h1 h2, bv64_nat (by decide) (by decide)]
    exact Nat.and_two_pow_sub_one_eq_mod a.toNat 31
  unfold lAnd
  show (Int64.ofInt a &&& Int64.ofInt 2147483647).toBitVec.toInt = _
  rw [BitVec.toInt_eq_toNat_of_lt (by rw [h]; omega), h]
  omega
def nSeed (s : Int) : Int := (1103515245 * s + 12345) % 2147483648
theorem nSeed_in (s : Int) : 0 ≤ nSeed s ∧ nSeed s < 2147483648 := by unfold nSeed; omega
def lotL : Nat → (Int → Int) → Int → (Int → Int) × Int
  | 0, f, s => (f, s)
  | k + 1, f, s => lotL k (uPd (uPd f (2 + ((k : Int) + 1)) (f (2 + nSeed s / 64 % ((k : Int) + 2)))) (2 + nSeed s / 64 % ((k : Int) + 2)) (f (2 + ((k : Int) + 1)))) (nSeed s)
theorem sX9_draw (m : Int) (b : Bool) (μ : Nat → Int → Int) (hs0 : 0 ≤ μ 0 11) (hs1 : μ 0 11 < 2147483648) (hm0 : 0 < m) (hm1 : m < 100) : ∀ d, 1 ≤ d → mCallN d 213 [mP 0, mI m] (SH, μ, RHO b) = some (nSeed (μ 0 11) / 64 % m, SH, m2 μ 0 11 (nSeed (μ 0 11)), RHO b) := deep fun d _ => by
  refine call_X9_draw d b μ m ⟨2, ?_⟩
  have hn := nSeed_in (μ 0 11)
  have e1 : lAnd (w64 (w64 (1103515245 * μ 0 11) + 12345)) 2147483647 = nSeed (μ 0 11) := by
    rw [w64_id (x := 1103515245 * μ 0 11) (by omega) (by omega), w64_id (by omega) (by omega), lAnd_31 (by omega) (by omega)]
    rfl
  have e2 : 0 ≤ nSeed (μ 0 11) / 64 % m ∧ nSeed (μ 0 11) / 64 % m < m := ⟨Int.emod_nonneg _ (by omega), Int.emod_lt_of_pos _ hm0⟩
  have e3 : lDiv (nSeed (μ 0 11)) 64 = nSeed (μ 0 11) / 64 := lDiv_p hn.1 (by omega) (by decide) (by decide)
  have e4 : lRem (nSeed (μ 0 11) / 64) m = nSeed (μ 0 11) / 64 % m := lRem_p (by omega) (by omega) (by omega) (by omega)
  rw [tX9_draw_0, mBr_pos hm0, if_neg (by omega), e1, tX9_draw_40, m2_at, if_pos rfl, e3, e4, l2i_id (by omega) (by omega)]
theorem sX10_drawOf (m : Int) (b : Bool) (μ : Nat → Int → Int) (hs0 : 0 ≤ μ 96 60) (hs1 : μ 96 60 < 2147483648) (hm0 : 0 < m) (hm1 : m < 100) : ∀ d, 1 ≤ d → mCallN d 28 [mP 96, mI m] (SH, μ, RHO b) = some (nSeed (μ 96 60) / 64 % m, SH, m2 μ 96 60 (nSeed (μ 96 60)), RHO b) := deep fun d _ => by
  refine call_X10_drawOf d b μ m ⟨1, ?_⟩
  have hn := nSeed_in (μ 96 60)
  have e1 : lRem (w64 (w64 (1103515245 * μ 96 60) + 12345)) 2147483648 = nSeed (μ 96 60) := by
    rw [w64_id (x := 1103515245 * μ 96 60) (by omega) (by omega), w64_id (by omega) (by omega), lRem_p (by omega) (by omega) (by decide) (by decide)]
    rfl
  have e2 : 0 ≤ nSeed (μ 96 60) / 64 % m ∧ nSeed (μ 96 60) / 64 % m < m := ⟨Int.emod_nonneg _ (by omega), Int.emod_lt_of_pos _ hm0⟩
  have e3 : lDiv (nSeed (μ 96 60)) 64 = nSeed (μ 96 60) / 64 := lDiv_p hn.1 (by omega) (by decide) (by decide)
  have e4 : lRem (nSeed (μ 96 60) / 64) m = nSeed (μ 96 60) / 64 % m := lRem_p (by omega) (by omega) (by omega) (by omega)
  rw [tX10_drawOf_0, if_neg (by omega), e1, m2_at, if_pos rfl, e3, e4, l2i_id (by omega) (by omega)]
theorem eX9_lots {d : Nat} (hd : 1 ≤ d) {b : Bool} {μ0 : Nat → Int → Int} {v1 : Int} : ∀ (k : Nat) (μ : Nat → Int → Int), k < 12 → 0 ≤ μ 0 11 → μ 0 11 < 2147483648 → (∀ a, a ≠ 74 → a ≠ 0 → μ a = μ0 a) → (∀ j, j ≠ 11 → μ 0 j = μ0 0 j) → Ev (fun n => mRun (mCallN d) kX9_lots n 24 [some (mP 0), some (mI v1), some (mI k)] [] (SH, μ, RHO b)) b (fun v μ' => (∀ a, a ≠ 74 → a ≠ 0 → μ' a = μ0 a) ∧ (∀ j, j ≠ 11 → μ' 0 j = μ0 0 j) ∧ μ' 74 = (lotL k (μ 74) (μ 0 11)).1 ∧ μ' 0 11 = (lotL k (μ 74) (μ 0 11)).2 ∧ v = μ' 74 2) := by
  intro k
  induction k with
  | zero =>
    intro μ hk hs0 hs1 h1 h2
    exact ev_row (fun n => tX9_lots_24 _ n b μ v1 _) (ev_neg (by decide) (ev_ret ⟨h1, h2, rfl, rfl, rfl⟩))
  | succ k ih =>
    intro μ hk hs0 hs1 h1 h2
    have hn := nSeed_in (μ 0 11)
    have e1 : w32 (((k + 1 : Nat) : Int) + 1) = (k : Int) + 2 := by rw [w32_id (by omega) (by omega)]; omega
    have e2 : w32 (2 + ((k + 1 : Nat) : Int)) = 2 + ((k : Int) + 1) := by rw [w32_id (by omega) (by omega)]; omega
    have e3 : w32 (((k + 1 : Nat) : Int) + (-1)) = (k : Int) := by rw [w32_id (by omega) (by omega)]; omega
    have hr : 0 ≤ nSeed (μ 0 11) / 64 % ((k : Int) + 2) ∧ nSeed (μ 0 11) / 64 % ((k : Int) + 2) < (k : Int) + 2 := ⟨Int.emod_nonneg _ (by omega), Int.emod_lt_of_pos _ (by omega)⟩
    have e4 : w32 (2 + nSeed (μ 0 11) / 64 % ((k : Int) + 2)) = 2 + nSeed (μ 0 11) / 64 % ((k : Int) + 2) := w32_id (by omega) (by omega)
    refine ev_row (fun n => tX9_lots_24 _ n b μ v1 _) (ev_pos (by omega) ?_)
    rw [e1, e2, e3]
    refine ev_call (sX9_draw ((k : Int) + 2) b μ hs0 hs1 (by omega) (by omega) d hd) ?_
    dsimp only
    rw [e4]
    refine ev_call (sX9_exchangeIn 74 62 (2 + ((k : Int) + 1)) (2 + nSeed (μ 0 11) / 64 % ((k : Int) + 2)) b _ rfl (by omega) (by omega) (by omega) (by omega) d hd) ?_
    dsimp only
    rw [m2_ne (by decide : (74 : Nat) ≠ 0)]
    have q := ih (m2 (m2 (m2 μ 0 11 (nSeed (μ 0 11))) 74 (2 + ((k : Int) + 1)) (μ 74 (2 + nSeed (μ 0 11) / 64 % ((k : Int) + 2)))) 74 (2 + nSeed (μ 0 11) / 64 % ((k : Int) + 2)) (μ 74 (2 + ((k : Int) + 1)))) (by omega) (by rw [m2_ne (by decide), m2_ne (by decide), m2_at, if_pos rfl]; exact hn.1) (by rw [m2_ne (by decide), m2_ne (by decide), m2_at, if_pos rfl]; exact hn.2) (fun a a1 a2 => by rw [m2_ne a1, m2_ne a1, m2_ne a2, h1 a a1 a2]) (fun j hj => by rw [m2_ne (by decide), m2_ne (by decide), m2_at, if_neg hj, h2 j hj])
    rw [m2_uPd, m2_uPd, m2_ne (by decide : (74 : Nat) ≠ 0), m2_ne (by decide : (0 : Nat) ≠ 74), m2_ne (by decide : (0 : Nat) ≠ 74), m2_at, if_pos rfl] at q
    rw [lotL]
    exact q
theorem eX10_lots {d : Nat} (hd : 2 ≤ d) {b : Bool} {μ0 : Nat → Int → Int} : ∀ (k : Nat) (μ : Nat → Int → Int), k < 12 → 0 ≤ μ 96 60 → μ 96 60 < 2147483648 → (∀ a, a ≠ 133 → a ≠ 96 → μ a = μ0 a) → (∀ j, j ≠ 60 → μ 96 j = μ0 96 j) → Ev (fun n => mRun (mCallN d) kX10_lots n 20 [some (mP 96), some (mI k)] [] (SH, μ, RHO b)) b (fun v μ' => (∀ a, a ≠ 133 → a ≠ 96 → μ' a = μ0 a) ∧ (∀ j, j ≠ 60 → μ' 96 j = μ0 96 j) ∧ μ' 133 = (lotL k (μ 133) (μ 96 60)).1 ∧ μ' 96 60 = (lotL k (μ 133) (μ 96 60)).2 ∧ v = μ' 133 2) := by
  intro k
  induction k with
  | zero =>
    intro μ hk hs0 hs1 h1 h2
    exact ev_row (fun n => tX10_lots_20 _ n b μ _) (ev_neg (by decide) (ev_call (sX10_manAt 0 b μ (by decide) (by decide) d (by omega)) (ev_ret ⟨h1, h2, rfl, rfl, rfl⟩)))
  | succ k ih =>
    intro μ hk hs0 hs1 h1 h2
    have hn := nSeed_in (μ 96 60)
    have e1 : w32 (((k + 1 : Nat) : Int) + 1) = (k : Int) + 2 := by rw [w32_id (by omega) (by omega)]; omega
    have e3 : w32 (((k + 1 : Nat) : Int) + (-1)) = (k : Int) := by rw [w32_id (by omega) (by omega)]; omega
    have hr : 0 ≤ nSeed (μ 96 60) / 64 % ((k : Int) + 2) ∧ nSeed (μ 96 60) / 64 % ((k : Int) + 2) < (k : Int) + 2 := ⟨Int.emod_nonneg _ (by omega), Int.emod_lt_of_pos _ (by omega)⟩
    refine ev_row (fun n => tX10_lots_20 _ n b μ _) (ev_pos (by omega) ?_)
    rw [e1, e3, show ((k + 1 : Nat) : Int) = (k : Int) + 1 by omega]
    refine ev_call (sX10_drawOf ((k : Int) + 2) b μ hs0 hs1 (by omega) (by omega) d (by omega)) ?_
    dsimp only
    refine ev_call (sX10_changes ((k : Int) + 1) (nSeed (μ 96 60) / 64 % ((k : Int) + 2)) b _ (by omega) (by omega) (by omega) (by omega) d (by omega)) ?_
    dsimp only
    rw [m2_ne (by decide : (133 : Nat) ≠ 96)]
    have q := ih (m2 (m2 (m2 μ 96 60 (nSeed (μ 96 60))) 133 (2 + ((k : Int) + 1)) (μ 133 (2 + nSeed (μ 96 60) / 64 % ((k : Int) + 2)))) 133 (2 + nSeed (μ 96 60) / 64 % ((k : Int) + 2)) (μ 133 (2 + ((k : Int) + 1)))) (by omega) (by rw [m2_ne (by decide), m2_ne (by decide), m2_at, if_pos rfl]; exact hn.1) (by rw [m2_ne (by decide), m2_ne (by decide), m2_at, if_pos rfl]; exact hn.2) (fun a a1 a2 => by rw [m2_ne a1, m2_ne a1, m2_ne a2, h1 a a1 a2]) (fun j hj => by rw [m2_ne (by decide), m2_ne (by decide), m2_at, if_neg hj, h2 j hj])
    rw [m2_uPd, m2_uPd, m2_ne (by decide : (133 : Nat) ≠ 96), m2_ne (by decide : (96 : Nat) ≠ 133), m2_ne (by decide : (96 : Nat) ≠ 133), m2_at, if_pos rfl] at q
    rw [lotL]
    exact q
theorem lotL_ok {C gm tc : Int → Int} (hC : 0 ≤ C 1 ∧ 0 ≤ C 2 ∧ C 2 ≤ 12 ∧ 0 ≤ C 3 ∧ C 3 ≤ 6) : ∀ (k : Nat) (f g : Int → Int) (s : Int), (k : Int) < C 2 → Rrow f g → rowOK C gm tc f → 0 ≤ s → s < 2147483648 → Rrow (lotL k f s).1 (lotL k g s).1 ∧ rowOK C gm tc (lotL k f s).1 ∧ (lotL k f s).2 = (lotL k g s).2 ∧ 0 ≤ (lotL k f s).2 ∧ (lotL k f s).2 < 2147483648
  | 0, f, g, s, _, h1, h2, h3, h4 => ⟨h1, h2, rfl, h3, h4⟩
  | k + 1, f, g, s, hk, h1, h2, h3, h4 => by
    rw [lotL, lotL]
    have hn := nSeed_in s
    have hr : 0 ≤ nSeed s / 64 % ((k : Int) + 2) ∧ nSeed s / 64 % ((k : Int) + 2) < (k : Int) + 2 := ⟨Int.emod_nonneg _ (by omega), Int.emod_lt_of_pos _ (by omega)⟩
    refine lotL_ok hC k _ _ (nSeed s) (by omega) ?_ ?_ hn.1 hn.2
    · exact Rrow_exch h1 (i := (k : Int) + 1) (j := nSeed s / 64 % ((k : Int) + 2)) (by omega) (by omega) (by omega) (by omega) (fun x => rfl) (fun x => rfl)
    · exact rowOK_exch (i := (k : Int) + 1) (j := nSeed s / 64 % ((k : Int) + 2)) hC h2 (by omega) (by omega) (by omega) (by omega) (fun x => rfl)
theorem p_lots {b : Bool} {μ : Nat → Int → Int} (hR : R b μ) : ∀ d, 4 ≤ d → PairA d b μ 239 81 [] := deep fun d hd => by
  obtain ⟨⟨c1, c2, c3⟩, ⟨n1, n2, n3⟩, -, -⟩ := hR.2.2.1
  have hcn := hR.1.1
  have hC := Rcnt_C hcn
  obtain ⟨-, -, ⟨hm1, hm2, hm3⟩, -⟩ := hcn
  have q4 := hR.2.2.2.1.2.2.2.1
  by_cases e : μ (tw b + 1) 2 = 0
  · refine ⟨-1, μ, μ, call_X9_lots d b μ ⟨1, ?_⟩, call_X10_lots d b μ ⟨1, ?_⟩, hR⟩
    · rw [tX9_lots_0, mBr_pos e]
    · rw [tX10_lots_0, sX10_gateMany b μ d (by omega), mOptR_some, mBr_pos (by show μ 120 7 = 0; omega)]
  · have k74 : muBegin μ 74 = μ 74 := muBegin_ne (by decide) (by decide) (by decide) (by decide) n2 n3
    have k0 : muBegin μ 0 = μ 0 := muBegin_ne (by decide) (by decide) (by decide) (by decide) n2 n3
    have ew : w32 (μ (tw b + 1) 2 - 1) = (((μ (tw b + 1) 2).toNat - 1 : Nat) : Int) := by rw [w32_id (by omega) (by omega)]; omega
    have hA : Cal (d + 1) 239 [mP 0] b μ (fun v μ' => (∀ a, a ≠ 74 → a ≠ 0 → μ' a = muBegin μ a) ∧ (∀ j, j ≠ 11 → μ' 0 j = muBegin μ 0 j) ∧ μ' 74 = (lotL ((μ (tw b + 1) 2).toNat - 1) (μ 74) (μ 0 11)).1 ∧ μ' 0 11 = (lotL ((μ (tw b + 1) 2).toNat - 1) (μ 74) (μ 0 11)).2 ∧ v = μ' 74 2) := by
      refine cal_ev (fun r => call_X9_lots d b μ) ?_
      refine ev_row (fun n => tX9_lots_0 _ n b μ) (ev_neg e (ev_call (sX9_beginAct b μ n2 n3 c2 c3 d hd) ?_))
      dsimp only
      rw [ew]
      have := eX9_lots (d := d) (by omega) (b := b) (μ0 := muBegin μ) (v1 := μ (tw b + 1) 2) ((μ (tw b + 1) 2).toNat - 1) (muBegin μ) (by omega) (by rw [k0]; exact q4.2.1) (by rw [k0]; exact q4.2.2) (fun _ _ _ => rfl) (fun _ _ => rfl)
      rw [k74, k0] at this
      rw [k0]
      exact this
    obtain ⟨v, μ1, h1, h2, h3, h4, h5, h6⟩ := hA
    obtain ⟨⟨k96, k133, kt⟩, p1, p2⟩ := act_pre hR h2
    have k120 : μ1 120 = μ 120 := kt 120 (by simp [twL])
    have j133 : muKeeps μ1 133 = μ 133 := by rw [muKeeps_ne (by decide) (by decide), k133]
    have j60 : muKeeps μ1 96 60 = μ 0 11 := by rw [muKeeps_96.2.2 60 (by decide) (by decide), k96]; exact q4.1
    have hB : Cal (d + 1) 81 [mP 96] b μ1 (fun v μ' => (∀ a, a ≠ 133 → a ≠ 96 → μ' a = muKeeps μ1 a) ∧ (∀ j, j ≠ 60 → μ' 96 j = muKeeps μ1 96 j) ∧ μ' 133 = (lotL ((μ (tw b + 1) 2).toNat - 1) (μ 133) (μ 0 11)).1 ∧ μ' 96 60 = (lotL ((μ (tw b + 1) 2).toNat - 1) (μ 133) (μ 0 11)).2 ∧ v = μ' 133 2) := by
      refine cal_ev (fun r => call_X10_lots d b μ1) ?_
      refine ev_row (fun n => tX10_lots_0 _ n b μ1) (ev_call (sX10_gateMany b μ1 d (by omega)) (ev_neg (by show ¬ (μ1 120 7 = 0); rw [k120]; omega) (ev_call (sX10_keeps' b μ1 p1.1 p1.2 p2.1 p2.2 d (by omega)) (ev_call (sX10_gateMany b _ d (by omega)) ?_))))
      dsimp only
      rw [muKeeps_ne (by decide : (120 : Nat) ≠ 96) (by decide), k120, hm1, ew]
      have := eX10_lots (d := d) (by omega) (b := b) (μ0 := muKeeps μ1) ((μ (tw b + 1) 2).toNat - 1) (muKeeps μ1) (by omega) (by rw [j60]; exact q4.2.1) (by rw [j60]; exact q4.2.2) (fun _ _ _ => rfl) (fun _ _ => rfl)
      rw [j133, j60] at this
      exact this
    obtain ⟨v', μ2, h1', h2', h3', h4', h5', h6'⟩ := hB
    obtain ⟨l1, l2, l3, l4, l5⟩ := lotL_ok hC ((μ (tw b + 1) 2).toNat - 1) (μ 74) (μ 133) (μ 0 11) (by omega) hR.2.1.1 hR.2.1.2 q4.2.1 q4.2.2
    have hv : v' = v := by rw [h6, h6', h4, h4']; exact l1.1 2 (by decide) (by decide)
    rw [hv] at h1'
    refine ⟨v, μ1, μ2, h1, h1', R_act hR h2 (fun j hj => by rw [h3 j hj, k0]) h2' h3' ?_ ?_ ?_⟩
    · rw [h5', ← l3, h5]; exact ⟨rfl, l4, l5⟩
    · rw [h4, h4']; exact l1
    · rw [h4]; exact l2
