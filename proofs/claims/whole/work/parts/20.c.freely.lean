/-! ===== sets as bits ===== -/
theorem iOr_bit {s i : Int} {k : Nat} (hk : k ≤ 30) (h0 : 0 ≤ s) (h1 : s < ((2 ^ k : Nat) : Int)) (i0 : 0 ≤ i) (i1 : i < k) : (0 ≤ iOr s (iShl 1 i) ∧ iOr s (iShl 1 i) < ((2 ^ k : Nat) : Int)) ∧ ∀ r, 0 ≤ r → bI (iOr s (iShl 1 i)) r = (bI s r || decide (r = i)) := by
  have hp : (2 : Nat) ^ k ≤ 2 ^ 30 := Nat.pow_le_pow_right (by decide) hk
  have hpi : (2 : Nat) ^ i.toNat < 2 ^ k := Nat.pow_lt_pow_right (by decide) (by omega)
  have e : iOr s (iShl 1 i) = ((s.toNat ||| 2 ^ i.toNat : Nat) : Int) := by
    rw [iShl_1 i0 (by omega), iOr_n h0 (by omega) (Int.natCast_nonneg _) (by omega)]; rfl
  rw [e]
  refine ⟨⟨Int.natCast_nonneg _, Int.ofNat_lt.mpr (Nat.or_lt_two_pow (by omega) hpi)⟩, fun r r0 => ?_⟩
  unfold bI
  rw [show ((s.toNat ||| 2 ^ i.toNat : Nat) : Int).toNat = s.toNat ||| 2 ^ i.toNat from rfl, Nat.testBit_or, Nat.testBit_two_pow]
  congr 1
  by_cases e2 : r = i
  · rw [decide_eq_true e2, decide_eq_true (by rw [e2])]
  · rw [decide_eq_false e2, decide_eq_false (by omega)]
theorem bI_zero (r : Int) : bI 0 r = false := by unfold bI; exact Nat.zero_testBit _
theorem bits_eq {s t : Int} {k : Nat} (h0 : 0 ≤ s) (h1 : s < ((2 ^ k : Nat) : Int)) (t0 : 0 ≤ t) (t1 : t < ((2 ^ k : Nat) : Int)) (h : ∀ r, 0 ≤ r → r < (k : Int) → bI s r = bI t r) : s = t := by
  have : s.toNat = t.toNat := by
    apply Nat.eq_of_testBit_eq
    intro i
    by_cases e : i < k
    · exact h i (by omega) (by omega)
    · have hp : (2 : Nat) ^ k ≤ 2 ^ i := Nat.pow_le_pow_right (by decide) (by omega)
      rw [Nat.testBit_lt_two_pow (by omega), Nat.testBit_lt_two_pow (by omega)]
  omega
def setB (z : Int → Bool) : Nat → Int → Int → Int
  | 0, _, acc => acc
  | k + 1, i, acc => setB z k (i + 1) (if z i then iOr acc (iShl 1 i) else acc)
theorem setB_bits {z : Int → Bool} {m : Nat} (hm : m ≤ 30) : ∀ (k : Nat) (i acc : Int), 0 ≤ i → i + k ≤ m → 0 ≤ acc → acc < ((2 ^ m : Nat) : Int) → (0 ≤ setB z k i acc ∧ setB z k i acc < ((2 ^ m : Nat) : Int)) ∧ ∀ r, 0 ≤ r → bI (setB z k i acc) r = (bI acc r || (decide (i ≤ r ∧ r < i + k) && z r))
  | 0, i, acc, h0, hk, a0, a1 => ⟨⟨a0, a1⟩, fun r r0 => by rw [setB, decide_eq_false (by omega)]; simp⟩
  | k + 1, i, acc, h0, hk, a0, a1 => by
    rw [setB]
    by_cases e : z i = true
    · rw [if_pos e]
      obtain ⟨⟨b0, b1⟩, b2⟩ := iOr_bit hm a0 a1 h0 (by omega)
      obtain ⟨c1, c2⟩ := setB_bits (z := z) hm k (i + 1) _ (by omega) (by omega) b0 b1
      refine ⟨c1, fun r r0 => ?_⟩
      rw [c2 r r0, b2 r r0, Bool.or_assoc]
      congr 1
      by_cases e2 : r = i
      · rw [decide_eq_true e2, Bool.true_or, e2, e, decide_eq_true (show i ≤ i ∧ i < i + ((k + 1 : Nat) : Int) by omega)]; rfl
      · rw [decide_eq_false e2, Bool.false_or]
        congr 1
        rw [decide_eq_decide]; omega
    · rw [if_neg e]
      obtain ⟨c1, c2⟩ := setB_bits (z := z) hm k (i + 1) acc (by omega) (by omega) a0 a1
      refine ⟨c1, fun r r0 => ?_⟩
      rw [c2 r r0]
      congr 1
      by_cases e2 : r = i
      · rw [e2, Bool.eq_false_iff.2 e]; simp
      · congr 1
        rw [decide_eq_decide]; omega
theorem bit_br {s m : Int} (h1 : 0 ≤ s) (h2 : s < 2147483648) (h3 : 0 ≤ m) (h4 : m < 31) : iAnd (iShr s m) 1 = 1 ↔ bI s m = true := by
  rw [bit_iff h1 h2 h3 h4]
  cases bI s m <;> simp
/-! ===== rooms reached for nothing ===== -/
def w0 (cost : Int → Int) : Int → Int := fun g => if 0 < cost g then -1 else 0
/-- a set and how far: 0 or never -/
def SB (v : Int) (L : Int → Int) : Prop := (0 ≤ v ∧ v < ((2 ^ 10 : Nat) : Int)) ∧ ∀ r, 0 ≤ r → r < 10 → (bI v r = true ↔ L r = 0) ∧ (L r = 0 ∨ L r = 268435456)
theorem SB_add {v : Int} {L : Int → Int} {i : Int} (h : SB v L) (i0 : 0 ≤ i) (i1 : i < 10) : SB (iOr v (iShl 1 i)) (uPd L i 0) := by
  obtain ⟨⟨b0, b1⟩, b2⟩ := iOr_bit (k := 10) (by decide) h.1.1 h.1.2 i0 (by omega)
  refine ⟨⟨b0, b1⟩, fun r r0 r1 => ?_⟩
  rw [b2 r r0, uPd_at]
  by_cases e : r = i
  · rw [if_pos e, decide_eq_true e]; simp
  · rw [if_neg e, decide_eq_false e, Bool.or_false]; exact h.2 r r0 r1
theorem SB_congr {v : Int} {L L' : Int → Int} (h : SB v L) (hL : ∀ r, 0 ≤ r → r < 10 → L' r = L r) : SB v L' := ⟨h.1, fun r r0 r1 => by rw [hL r r0 r1]; exact h.2 r r0 r1⟩
theorem eX10_freely_17 {d : Nat} (hd : 1 ≤ d) {b : Bool} {fa fb cost : Int → Int} {n : Nat} {v1 v3 : Int} {μ : Nat → Int → Int} {Q : Int → (Nat → Int → Int) → Prop} (hg : gOk fa fb cost n 10) (hn : n ≤ 12) (hG : ∀ g, 0 ≤ g → g < (n : Int) → μ 124 (36 + 3 * g) = fa g ∧ μ 124 (36 + 3 * g + 1) = fb g ∧ μ 135 g = cost g) (h7 : μ 120 7 = n) : ∀ (k : Nat) (i v : Int) (L : Int → Int), 0 ≤ i → i + k = n → SB v L →
    (∀ v' v4, SB v' (gPs fa fb (w0 cost) k i L) → Ev (fun m => mRun (mCallN d) kX10_freely m 6 [some (mP 96), some (mI v1), some (mI v'), some (mI (w32 (v3 + 1))), some (mI v4)] [] (SH, μ, RHO b)) b Q) →
    Ev (fun m => mRun (mCallN d) kX10_freely m 17 [some (mP 96), some (mI v1), some (mI v), some (mI v3), some (mI i)] [] (SH, μ, RHO b)) b Q := by
  intro k
  induction k with
  | zero =>
    intro i v L h0 hk hS hK
    exact ev_row (fun m => tX10_freely_17 _ m b μ v1 v v3 i) (ev_call (sX10_gateMany b μ d hd) (ev_neg (by show ¬ (i < μ 120 7); omega) (hK v i hS)))
  | succ k ih =>
    intro i v L h0 hk hS hK
    have e5 : w32 (i + 1) = i + 1 := w32_id (by omega) (by omega)
    obtain ⟨g1, g2, g3⟩ := hG i h0 (by omega)
    obtain ⟨⟨a0, a1⟩, ⟨b0, b1⟩, -⟩ := hg i h0 (by omega)
    have a1' : fa i < 10 := by omega
    have b1' : fb i < 10 := by omega
    have hA := sX10_firstRoom i b μ h0 (by omega) d hd
    have hB := sX10_otherRoom i b μ h0 (by omega) d hd
    rw [g1] at hA
    rw [g2] at hB
    have key : ∀ v', SB v' (gSt fa fb (w0 cost) L i) → Ev (fun m => mRun (mCallN d) kX10_freely m 89 [some (mP 96), some (mI v1), some (mI v'), some (mI v3), some (mI i)] [] (SH, μ, RHO b)) b Q := fun v' hS' => by
      refine ev_row (fun m => tX10_freely_89 _ m b μ v1 v' v3 i) ?_
      rw [e5]
      exact ih (i + 1) v' _ (by omega) (by omega) hS' hK
    refine ev_row (fun m => tX10_freely_17 _ m b μ v1 v v3 i) (ev_call (sX10_gateMany b μ d hd) (ev_pos (by show i < μ 120 7; omega) (ev_if (by omega) ?_)))
    dsimp only
    obtain ⟨sa, sa2⟩ := hS.2 (fa i) a0 a1'
    obtain ⟨sb, sb2⟩ := hS.2 (fb i) b0 b1'
    have hlt : v < 2147483648 := by have := hS.1.2; omega
    refine ev_br (fun e => ?_) (fun e => ?_)
    · refine key v ?_
      have : w0 cost i = -1 := if_pos (by rw [← g3]; exact e)
      unfold gSt; rw [if_pos this]; exact hS
    · have hw : w0 cost i = 0 := if_neg (by rw [← g3]; exact e)
      refine ev_call hA (ev_br (fun c => ?_) (fun c => ?_))
      · have ca := sa.1 ((bit_br hS.1.1 hlt a0 (by omega)).1 c)
        refine ev_call hB ?_
        dsimp only
        have hS1 := SB_add hS b0 b1'
        have hlt1 : iOr v (iShl 1 (fb i)) < 2147483648 := by have := hS1.1.2; omega
        refine ev_row (fun m => tX10_freely_64 _ m b μ v1 _ v3 i) (ev_call hB (ev_br (fun c2 => ?_) (fun c2 => ?_)))
        · refine ev_call hA ?_
          refine key _ (SB_congr (SB_add hS1 a0 a1') (fun r r0 r1 => ?_))
          unfold gSt
          rw [if_neg (by rw [hw]; decide), hw]
          rw [uPd_at, uPd_at]
          by_cases q : L (fb i) = 0
          · rw [if_neg (by omega), if_neg (by omega)]
            by_cases e1 : r = fa i
            · rw [if_pos e1, e1, ca]
            · rw [if_neg e1]
              by_cases e2 : r = fb i
              · rw [if_pos e2, e2, q]
              · rw [if_neg e2]
          · rw [if_pos (by omega), uPd_at]
            by_cases e1 : r = fa i
            · rw [if_pos e1]
              by_cases e2 : r = fb i
              · rw [if_pos e2, ca]; rfl
              · rw [if_neg e2, e1, ca]
            · rw [if_neg e1]
              by_cases e2 : r = fb i
              · rw [if_pos e2, if_pos e2, ca]; rfl
              · rw [if_neg e2, if_neg e2]
        · exfalso
          apply c2
          rw [bit_br hS1.1.1 hlt1 b0 (by omega)]
          exact (hS1.2 (fb i) b0 b1').1.2 uPd_same
      · have ca : L (fa i) = 268435456 := by
          rcases sa2 with h | h
          · exact absurd ((bit_br hS.1.1 hlt a0 (by omega)).2 (sa.2 h)) c
          · exact h
        refine ev_row (fun m => tX10_freely_64 _ m b μ v1 _ v3 i) (ev_call hB (ev_br (fun c2 => ?_) (fun c2 => ?_)))
        · have cb := sb.1 ((bit_br hS.1.1 hlt b0 (by omega)).1 c2)
          refine ev_call hA (key _ (SB_congr (SB_add hS a0 a1') (fun r r0 r1 => ?_)))
          unfold gSt
          rw [if_neg (by rw [hw]; decide), hw, if_neg (by omega), if_pos (by omega), cb]; rfl
        · have cb : L (fb i) = 268435456 := by
            rcases sb2 with h | h
            · exact absurd ((bit_br hS.1.1 hlt b0 (by omega)).2 (sb.2 h)) c2
            · exact h
          refine key v (SB_congr hS (fun r r0 r1 => ?_))
          unfold gSt
          rw [if_neg (by rw [hw]; decide), hw, if_neg (by omega), if_neg (by omega)]
theorem gIt_last {fa fb w : Int → Int} {n : Nat} : ∀ (k : Nat) (L : Int → Int), gIt fa fb w n (k + 1) L = gPs fa fb w n 0 (gIt fa fb w n k L)
  | 0, _ => rfl
  | k + 1, L => by rw [gIt]; exact gIt_last k _
theorem eX10_freely_6 {d : Nat} (hd : 1 ≤ d) {b : Bool} {fa fb cost : Int → Int} {n : Nat} {v1 : Int} {μ : Nat → Int → Int} {N : Nat} (hN : N ≤ 10) (h4 : μ 120 4 = N) (hg : gOk fa fb cost n 10) (hn : n ≤ 12) (hG : ∀ g, 0 ≤ g → g < (n : Int) → μ 124 (36 + 3 * g) = fa g ∧ μ 124 (36 + 3 * g + 1) = fb g ∧ μ 135 g = cost g) (h7 : μ 120 7 = n) : ∀ (k : Nat) (i v : Int) (v4 : Option mV) (L : Int → Int), 0 ≤ i → i + k = N → SB v L → Ev (fun m => mRun (mCallN d) kX10_freely m 6 [some (mP 96), some (mI v1), some (mI v), some (mI i), v4] [] (SH, μ, RHO b)) b (fun v' μ' => μ' = μ ∧ SB v' (gIt fa fb (w0 cost) n k L)) := by
  intro k
  induction k with
  | zero =>
    intro i v v4 L h0 hk hS
    exact ev_row (fun m => tX10_freely_6 _ m b μ v1 v i v4) (ev_call (sX10_roomMany b μ d hd) (ev_neg (by show ¬ (i < μ 120 4); omega) (ev_ret ⟨rfl, hS⟩)))
  | succ k ih =>
    intro i v v4 L h0 hk hS
    refine ev_row (fun m => tX10_freely_6 _ m b μ v1 v i v4) (ev_call (sX10_roomMany b μ d hd) (ev_pos (by show i < μ 120 4; omega) ?_))
    refine eX10_freely_17 hd hg hn hG h7 n 0 v L (by omega) (by omega) hS (fun v' v4' hS' => ?_)
    rw [w32_id (by omega) (by omega)]
    exact ih (i + 1) v' (some (mI v4')) _ (by omega) (by omega) hS'
theorem Wk_mono {fa fb w w' : Int → Int} {n : Nat} {s : Int} (hw : ∀ g, 0 ≤ g → g < (n : Int) → w g ≠ -1 → w' g = w g) : ∀ (h : Nat) (v c : Int), Wk fa fb w n h s v c → Wk fa fb w' n h s v c
  | 0, v, c, hk => hk
  | h + 1, v, c, hk => by
    obtain ⟨u, g, g0, g1, gw, huv, hk⟩ := hk
    have e := hw g g0 g1 gw
    exact ⟨u, g, g0, g1, by rw [e]; exact gw, huv, by rw [e]; exact Wk_mono hw h u _ hk⟩
theorem Wk_zero {fa fb cost : Int → Int} {n : Nat} {s : Int} (hg : gOk fa fb cost n 10) (hc : ∀ g, 0 ≤ g → g < (n : Int) → 0 ≤ cost g) (hs0 : 0 ≤ s) (hs1 : s < 10) : ∀ (h : Nat) (v : Int), Wk fa fb cost n h s v 0 → Wk fa fb (w0 cost) n h s v 0
  | 0, v, hk => hk
  | h + 1, v, hk => by
    obtain ⟨u, g, g0, g1, gw, huv, hk⟩ := hk
    have h1 := (Wk_in hg hs0 (by omega) _ _ _ hk).2
    have h2 := hc g g0 g1
    have h3 : cost g = 0 := by omega
    have h4 : w0 cost g = 0 := by unfold w0; rw [if_neg (by omega)]
    rw [h3] at hk
    exact ⟨u, g, g0, g1, by rw [h4]; decide, huv, by rw [h4]; exact Wk_zero hg hc hs0 hs1 h u hk⟩
theorem gSt_out {fa fb w L : Int → Int} {n N : Nat} {g r : Int} (hg : gOk fa fb w n N) (g0 : 0 ≤ g) (g1 : g < n) (hr : (N : Int) ≤ r) : gSt fa fb w L g r = L r := by
  obtain ⟨h1, h2, -⟩ := hg g g0 g1
  unfold gSt
  (repeat' split) <;> first | rfl | exact uPd_ne (by omega)
theorem gPs_out {fa fb w : Int → Int} {n N : Nat} {r : Int} (hg : gOk fa fb w n N) (hr : (N : Int) ≤ r) : ∀ (k : Nat) (i : Int) (L : Int → Int), 0 ≤ i → i + k = n → gPs fa fb w k i L r = L r
  | 0, _, _, _, _ => rfl
  | k + 1, i, L, h0, hk => by rw [gPs, gPs_out hg hr k (i + 1) _ (by omega) (by omega), gSt_out hg h0 (by omega) hr]
theorem gIt_out {fa fb w : Int → Int} {n N : Nat} {r : Int} (hg : gOk fa fb w n N) (hr : (N : Int) ≤ r) : ∀ (k : Nat) (L : Int → Int), gIt fa fb w n k L r = L r
  | 0, _ => rfl
  | k + 1, L => by rw [gIt, gIt_out hg hr k, gPs_out hg hr n 0 L (by omega) (by omega)]
/-- what freely answers -/
theorem sX10_freely (s : Int) (b : Bool) (μ : Nat → Int → Int) {fa fb cost : Int → Int} {n N : Nat} (hN : N ≤ 10) (h4 : μ 120 4 = N) (hg : gOk fa fb cost n N) (hn : n ≤ 12) (hG : ∀ g, 0 ≤ g → g < (n : Int) → μ 124 (36 + 3 * g) = fa g ∧ μ 124 (36 + 3 * g + 1) = fb g ∧ μ 135 g = cost g) (h7 : μ 120 7 = n) (hc : ∀ g, 0 ≤ g → g < (n : Int) → 0 ≤ cost g ∧ cost g ≤ 99) (hs0 : 0 ≤ s) (hs1 : s < N) : ∀ d, 2 ≤ d → Cal d 43 [mP 96, mI s] b μ (fun v μ' => μ' = μ ∧ (0 ≤ v ∧ v < ((2 ^ N : Nat) : Int)) ∧ ∀ r, 0 ≤ r → r < (N : Int) → (bI v r = true ↔ dst fa fb cost n s r = 0)) := deepC fun d hd => by
  have hg10 : gOk fa fb cost n 10 := fun g g0 g1 => by
    obtain ⟨h1, h2, h3⟩ := hg g g0 g1
    exact ⟨⟨h1.1, by omega⟩, ⟨h2.1, by omega⟩, h3⟩
  have hgw : gOk fa fb (w0 cost) n N := fun g g0 g1 => by
    obtain ⟨h1, h2, h3⟩ := hg g g0 g1
    exact ⟨h1, h2, by unfold w0; split <;> omega⟩
  refine cal_ev (fun r => call_X10_freely d b μ s) (ev_row (fun m => tX10_freely_0 _ m b μ s) ?_)
  have h1s : iShl 1 s = ((2 ^ s.toNat : Nat) : Int) := iShl_1 hs0 (by omega)
  have hps : (2 : Nat) ^ s.toNat < 2 ^ 10 := Nat.pow_lt_pow_right (by decide) (by omega)
  have hS0 : SB (iShl 1 s) (fun x => if x = s then 0 else 268435456) := by
    rw [h1s]
    refine ⟨⟨Int.natCast_nonneg _, Int.ofNat_lt.mpr hps⟩, fun r r0 r1 => ?_⟩
    dsimp only
    unfold bI
    rw [show ((2 ^ s.toNat : Nat) : Int).toNat = 2 ^ s.toNat from rfl, Nat.testBit_two_pow]
    by_cases e : r = s
    · rw [if_pos e, decide_eq_true (by rw [e])]; simp
    · rw [if_neg e, decide_eq_false (by omega)]; simp
  refine ev_mono (eX10_freely_6 hd hN h4 hg10 hn hG h7 N 0 (iShl 1 s) none _ (by omega) (by omega) hS0) (fun v μ' h => ⟨h.1, ?_⟩)
  have hD : Dist fa fb (w0 cost) n N 268435456 s (gIt fa fb (w0 cost) n N (fun x => if x = s then 0 else 268435456)) := gIt_dist hgw hs0 hs1 (Nat.le_refl N) (by decide) (if_pos rfl) (fun v v0 v1 e => if_neg e)
  have hout : ∀ r, (N : Int) ≤ r → gIt fa fb (w0 cost) n N (fun x => if x = s then 0 else 268435456) r = 268435456 := fun r hr => by rw [gIt_out hgw hr]; exact if_neg (by omega)
  generalize gIt fa fb (w0 cost) n N (fun x => if x = s then 0 else 268435456) = F0 at h hD hout
  have hD2 := dst_dist hg10 hs0 (by omega : s < 10)
  have hz : ∀ r, 0 ≤ r → r < (N : Int) → (bI v r = true ↔ dst fa fb cost n s r = 0) := fun r r0 r1 => by
    rw [(h.2.2 r r0 (by omega)).1]
    obtain ⟨f0, f1, f2⟩ := hD.2.1 r r0 r1
    obtain ⟨p0, p1, p2⟩ := hD2.2.1 r r0 (by omega)
    constructor
    · intro e
      rcases f2 with f2 | ⟨k, -, hk⟩
      · omega
      · rw [e] at hk
        have hk2 := Wk_mono (w' := cost) (fun g g0 g1 gw => by
          unfold w0 at gw ⊢
          have := hc g g0 g1
          by_cases q : 0 < cost g
          · rw [if_pos q] at gw; exact absurd rfl gw
          · rw [if_neg q]; omega) k r 0 hk
        have := Dist_le hD2 k r 0 hk2
        omega
    · intro e
      rcases p2 with p2 | ⟨k, -, hk⟩
      · omega
      · rw [e] at hk
        have hk2 := Wk_zero hg10 (fun g g0 g1 => (hc g g0 g1).1) hs0 (by omega) k r hk
        have := Dist_le hD k r 0 hk2
        omega
  refine ⟨⟨h.2.1.1, ?_⟩, hz⟩
  by_cases hv : v < ((2 ^ N : Nat) : Int)
  · exact hv
  · exfalso
    obtain ⟨i, i1, i2⟩ := Nat.exists_ge_and_testBit_of_ge_two_pow (x := v.toNat) (n := N) (by omega)
    have i3 : i < 10 := by
      rcases Nat.lt_or_ge i 10 with q | q
      · exact q
      · have hp : (2 : Nat) ^ 10 ≤ 2 ^ i := Nat.pow_le_pow_right (by decide) q
        have h8 := h.2.1.2
        rw [Nat.testBit_lt_two_pow (by omega)] at i2
        exact absurd i2 (by decide)
    have := (h.2.2 (i : Int) (by omega) (by omega)).1.1 i2
    rw [hout (i : Int) (by omega)] at this
    exact absurd this (by decide)
