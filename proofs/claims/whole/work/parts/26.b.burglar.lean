/-! ===== burglar: sets of men by bits ===== -/
theorem iAnd_not0 {k o : Int} (k0 : 0 ≤ k) (k1 : k < 4096) (o0 : 0 ≤ o) (o1 : o < 4096) (h : ∀ x : Nat, k.toNat.testBit x = true → o.toNat.testBit x = true) : iAnd k (iXor o (-1)) = 0 := by
  have e : Int32.ofInt (iXor o (-1)) = Int32.ofInt o ^^^ Int32.ofInt (-1) := Int32.ofInt_toInt _
  unfold iAnd
  rw [e]
  refine bv_int (n := 0) ?_ (by decide)
  rw [Int32.toBitVec_and, BitVec.toNat_and, Int32.toBitVec_xor, BitVec.toNat_xor, bv_nat k0 (by omega), bv_nat o0 (by omega), show (Int32.ofInt (-1)).toBitVec.toNat = 2 ^ 32 - 1 from by decide]
  apply Nat.eq_of_testBit_eq
  intro i
  rw [Nat.testBit_and, Nat.testBit_xor, Nat.testBit_two_pow_sub_one, Nat.zero_testBit]
  cases hk : k.toNat.testBit i with
  | false => rfl
  | true =>
    have hi : i < 32 := by
      rcases Nat.lt_or_ge i 32 with q | q
      · exact q
      · have hp : (2 : Nat) ^ 12 ≤ 2 ^ i := Nat.pow_le_pow_right (by decide) (by omega)
        rw [Nat.testBit_lt_two_pow (by omega)] at hk
        exact absurd hk (by decide)
    rw [h i hk, decide_eq_true hi]; rfl
theorem iAnd_dis {k o : Int} (k0 : 0 ≤ k) (k1 : k < 4096) (o0 : 0 ≤ o) (o1 : o < 4096) (h : ∀ x : Nat, k.toNat.testBit x = true → o.toNat.testBit x = false) : iAnd k o = 0 := by
  rw [iAnd_n k0 (by omega) o0 (by omega)]
  have : k.toNat &&& o.toNat = 0 := by
    apply Nat.eq_of_testBit_eq
    intro i
    rw [Nat.testBit_and, Nat.zero_testBit]
    cases hk : k.toNat.testBit i with
    | false => rfl
    | true => rw [h i hk]; rfl
  rw [this]; rfl
theorem iOr_set {a k : Int} (a0 : 0 ≤ a) (a1 : a < 4096) (k0 : 0 ≤ k) (k1 : k < 4096) : (0 ≤ iOr a k ∧ iOr a k < 4096) ∧ ∀ r, bI (iOr a k) r = (bI a r || bI k r) := by
  rw [iOr_n a0 (by omega) k0 (by omega)]
  have h : a.toNat ||| k.toNat < 2 ^ 12 := Nat.or_lt_two_pow (by omega) (by omega)
  refine ⟨⟨Int.natCast_nonneg _, Int.ofNat_lt.mpr h⟩, fun r => ?_⟩
  unfold bI
  rw [Int.toNat_natCast, Nat.testBit_or]
theorem fBu_ge (x : Nat) : 4096 ≤ fBu x := Nat.le_add_right _ _
theorem fBu_le {x : Nat} (h : x < 12) : fBu x ≤ 6144 := Nat.add_le_add_left (Nat.pow_le_pow_right (by decide : 0 < 2) (by omega : x ≤ 11)) 4096
theorem fBu_int (x : Nat) : (4096 : Int) + ((2 ^ x : Nat) : Int) = ((fBu x : Nat) : Int) := (Int.natCast_add 4096 (2 ^ x)).symm
/-- what each gate weighs for a burglar -/
def wB (b : Bool) (μ : Nat → Int → Int) (p : Int) : Int → Int := fun g => if wP b μ p g = 0 then 0 else ((fBu (μ 74 (2 + g)).toNat : Nat) : Int)
/-- what each gate takes of him, with these friends more -/
def wS (b : Bool) (μ : Nat → Int → Int) (p : Int) (k : Nat) : Int → Int := fun g => if k.testBit (μ 74 (2 + g)).toNat = true then 0 else wP b μ p g
def ofM (b : Bool) (μ : Nat → Int → Int) : Int := orB (fun g => μ 74 (2 + g)) (μ (tw b + 1) 2).toNat 0 0
def feS (b : Bool) (μ : Nat → Int → Int) (p r : Int) : Nat → Bool := fun k => decide (iAnd (k : Int) (iXor (ofM b μ) (-1)) = 0) && (decide (iAnd (k : Int) (μ 74 (56 + p)) = 0) && decide (dstN b μ (wS b μ p k) (μ 74 (38 + p)) r = 0))
def buB (b : Bool) (μ : Nat → Int → Int) (p r : Int) : Int := bsS (feS b μ p r) (2 ^ (μ (tw b + 1) 1).toNat)
def buA (b : Bool) (μ : Nat → Int → Int) (p r w : Int) : Int := if buB b μ p r = -1 then -1 else if w = 0 then ((pc (buB b μ p r).toNat : Nat) : Int) else buB b μ p r
def buV (b : Bool) (μ : Nat → Int → Int) (p r w : Int) : Int := if (0 ≤ p ∧ p < μ (tw b + 1) 3) ∧ (0 ≤ r ∧ r < μ (tw b + 1) 0) ∧ (0 ≤ w ∧ w < 2) then buA b μ p r w else -1
theorem buV_same {b : Bool} {μ μ' : Nat → Int → Int} (h : ∀ a, a ∈ twL b → μ' a = μ a) (h2 : μ' 74 = μ 74) (p r w : Int) : buV b μ' p r w = buV b μ p r w := by
  have e : feS b μ' p r = feS b μ p r := by
    funext k
    unfold feS ofM wS
    rw [wP_same h h2, h2, h (tw b + 1) (by simp [twL]), dstN_same h]
  have e2 : buB b μ' p r = buB b μ p r := by
    unfold buB
    rw [e, h (tw b + 1) (by simp [twL])]
  unfold buV buA
  rw [e2, h (tw b + 1) (by simp [twL])]
theorem R_man {b : Bool} {μ : Nat → Int → Int} (hR : R b μ) : ∀ g, 0 ≤ g → g < (((μ (tw b + 1) 2).toNat : Nat) : Int) → 0 ≤ μ 74 (2 + g) ∧ μ 74 (2 + g) < (((μ (tw b + 1) 1).toNat : Nat) : Int) := fun g g0 g1 => by
  obtain ⟨-, ⟨w1, w2, w3⟩, ⟨y1, y2, y3⟩, -⟩ := hR.1.1
  have := hR.2.1.2.2.1 g g0 (by omega)
  omega
theorem of_bits {b : Bool} {μ : Nat → Int → Int} (hR : R b μ) : (0 ≤ ofM b μ ∧ ofM b μ < 4096) ∧ ∀ r : Int, 0 ≤ r → (bI (ofM b μ) r = true ↔ ∃ g, 0 ≤ g ∧ g < μ (tw b + 1) 2 ∧ μ 74 (2 + g) = r) := by
  obtain ⟨-, ⟨w1, w2, w3⟩, ⟨y1, y2, y3⟩, -⟩ := hR.1.1
  obtain ⟨b1, b2⟩ := orB_bits (f := fun g => μ 74 (2 + g)) (μ (tw b + 1) 2).toNat 0 0 (fun g g0 g1 => by have := hR.2.1.2.2.1 g g0 (by omega); exact ⟨this.1, by show μ 74 (2 + g) < 12; omega⟩) (by decide) (by decide)
  refine ⟨b1, fun r r0 => ?_⟩
  unfold ofM
  rw [b2 r r0, bI_zero]
  constructor
  · rintro (q | ⟨g, g0, g1, g2⟩)
    · exact absurd q (by decide)
    · exact ⟨g, g0, by omega, g2⟩
  · rintro ⟨g, g0, g1, g2⟩
    exact Or.inr ⟨g, g0, by omega, g2⟩
theorem bur_both {b : Bool} {μ : Nat → Int → Int} (hR : R b μ) {p r : Int} (p0 : 0 ≤ p) (p1 : p < μ (tw b + 1) 3) (r0 : 0 ≤ r) (r1 : r < μ (tw b + 1) 0) : (buB b μ p r = -1 ∧ dstN b μ (wB b μ p) (μ 74 (38 + p)) r = 268435456) ∨ ((0 ≤ buB b μ p r ∧ buB b μ p r < 4096) ∧ dstN b μ (wB b μ p) (μ 74 (38 + p)) r = 4096 * ((pc (buB b μ p r).toNat : Nat) : Int) + buB b μ p r) := by
  have hC := hR.1.1
  obtain ⟨⟨z1, z2, z3⟩, ⟨w1, w2, w3⟩, ⟨y1, y2, y3⟩, ⟨x1, x2, x3⟩⟩ := hC
  obtain ⟨h1, h2, h3, h4⟩ := R_place hR p0 p1
  have hwB : ∀ g, wB b μ p g = 0 ∨ wB b μ p g = ((fBu (μ 74 (2 + g)).toNat : Nat) : Int) := fun g => by
    unfold wB
    by_cases e : wP b μ p g = 0
    · rw [if_pos e]; exact Or.inl rfl
    · rw [if_neg e]; exact Or.inr rfl
  have hz : ∀ g, wB b μ p g = 0 ↔ wP b μ p g = 0 := fun g => by
    unfold wB
    by_cases e : wP b μ p g = 0
    · rw [if_pos e]; exact ⟨fun _ => e, fun _ => rfl⟩
    · rw [if_neg e]; exact ⟨fun q => absurd q (by have := fBu_ge (μ 74 (2 + g)).toNat; omega), fun q => absurd q e⟩
  have hmn := R_man hR
  have hgS : ∀ k, gOk (μ (tw b + 8)) (μ (tw b + 9)) (wS b μ p k) (μ (tw b + 1) 2).toNat 10 := fun k => Rgat_ok hR.1.1 hR.1.2.1 (fun g _ _ => by
    have := wP_in b μ p g
    unfold wS; split <;> omega)
  have hS0 : ∀ k g, 0 ≤ wS b μ p k g := fun k g => by
    have := wP_in b μ p g
    unfold wS; split <;> omega
  have hopen : ∀ k g, ¬ 0 < wS b μ p k g ↔ (wB b μ p g = 0 ∨ k.testBit (μ 74 (2 + g)).toNat = true) := fun k g => by
    have := wP_in b μ p g
    rw [hz g]
    unfold wS
    by_cases e : k.testBit (μ 74 (2 + g)).toNat = true
    · rw [if_pos e]; exact ⟨fun _ => Or.inr e, fun _ => by omega⟩
    · rw [if_neg e]
      constructor
      · intro q; left; omega
      · rintro (q | q)
        · omega
        · exact absurd q e
  have hreach : ∀ k, (∃ h, Rc (μ (tw b + 8)) (μ (tw b + 9)) (fun g => wB b μ p g = 0 ∨ k.testBit (μ 74 (2 + g)).toNat = true) (μ (tw b + 1) 2).toNat h (μ 74 (38 + p)) r) ↔ dstN b μ (wS b μ p k) (μ 74 (38 + p)) r = 0 := fun k => by
    unfold dstN
    rw [dst_Rc (hgS k) (fun g _ _ => hS0 k g) h1.1 (by omega) r0 (by omega)]
    constructor
    · rintro ⟨h, q⟩; exact ⟨h, Rc_mono (fun g _ _ o => (hopen k g).2 o) h r q⟩
    · rintro ⟨h, q⟩; exact ⟨h, Rc_mono (fun g _ _ o => (hopen k g).1 o) h r q⟩
  have hofb := of_bits hR
  have hwas := (R_rowA hR).2.2.2 p p0 h4
  have hp12 : 2 ^ (μ (tw b + 1) 1).toNat ≤ 4096 := Nat.pow_le_pow_right (by decide : 0 < 2) (by omega : (μ (tw b + 1) 1).toNat ≤ 12)
  unfold buB dstN
  refine bur_main (M := (μ (tw b + 1) 1).toNat) (man := fun g => μ 74 (2 + g)) (Rgat_ok hR.1.1 hR.1.2.1 (fun g _ _ => by rcases hwB g with e | e <;> omega)) h1.1 (by omega) r0 (by omega) (by omega) hmn (fun g h g0 g1 h0 hh1 e => hR.2.1.2.2.2.1 g h g0 (by omega) h0 (by omega) e) (fun g _ _ => hwB g) (fun k hk hb hr => ?_) (fun k hk hf => ?_)
  · unfold feS
    rw [Bool.and_eq_true, Bool.and_eq_true, decide_eq_true_eq, decide_eq_true_eq, decide_eq_true_eq]
    refine ⟨iAnd_not0 (by omega) (by omega) hofb.1.1 hofb.1.2 (fun x hx => ?_), iAnd_dis (by omega) (by omega) hwas.1 hwas.2 (fun x hx => ?_), (hreach k).1 hr⟩
    · rw [Int.toNat_natCast] at hx
      obtain ⟨g, g0, g1, g2, g3⟩ := hb x hx
      have := hmn g g0 g1
      exact (hofb.2 x (by omega)).2 ⟨g, g0, by omega, by omega⟩
    · rw [Int.toNat_natCast] at hx
      obtain ⟨g, g0, g1, g2, g3⟩ := hb x hx
      rw [Bool.eq_false_iff]
      intro q
      apply g3
      rw [hz g]
      show prc b μ (μ 74) (μ 74 (2 + g)) p (μ (tw b + 14) p) = 0
      unfold prc
      rw [if_pos]
      right
      unfold bI
      rw [g2]; exact q
  · unfold feS at hf
    rw [Bool.and_eq_true, Bool.and_eq_true, decide_eq_true_eq, decide_eq_true_eq, decide_eq_true_eq] at hf
    exact (hreach k).2 hf.2.2
/-! ===== burglar, the class's half ===== -/
theorem sX9_burglar (p r w : Int) (b : Bool) (μ : Nat → Int → Int) (hR : R b μ) : ∀ d, 7 ≤ d → Cal d 211 [mP 0, mI p, mI r, mI w] b μ (fun v μ' => Fr scC μ μ' ∧ v = buV b μ p r w) := deepC fun d hd => by
  have hC := hR.1.1
  obtain ⟨⟨z1, z2, z3⟩, ⟨w1, w2, w3⟩, ⟨y1, y2, y3⟩, ⟨x1, x2, x3⟩⟩ := hC
  have hP := sX9_isPerson p b μ d (by omega)
  have hRm := sX9_within r (μ (tw b + 1) 0) b μ d (by omega)
  have hW := sX9_within w 2 b μ d (by omega)
  have no : ¬ ((0 ≤ p ∧ p < μ (tw b + 1) 3) ∧ (0 ≤ r ∧ r < μ (tw b + 1) 0) ∧ (0 ≤ w ∧ w < 2)) → Ev (fun n => mRun (mCallN d) kX9_burglar n 32 [some (mP 0), some (mI p), some (mI r), some (mI w), none] [] (SH, μ, RHO b)) b (fun v μ' => Fr scC μ μ' ∧ v = buV b μ p r w) := fun h => ev_row (fun n => tX9_burglar_32 _ n b μ p r w) (ev_ret ⟨fr_rfl, by unfold buV; rw [if_neg h]⟩)
  refine cal_ev (fun r' => call_X9_burglar d b μ p r w) (ev_row (fun n => tX9_burglar_0 _ n b μ p r w) (ev_call hP ?_))
  by_cases e1 : 0 ≤ p ∧ p < μ (tw b + 1) 3
  · refine ev_neg (by show ¬ t01 (0 ≤ p ∧ p < μ (tw b + 1) 3) = 0; rw [t01_pos e1]; decide) (ev_call hRm ?_)
    by_cases e2 : 0 ≤ r ∧ r < μ (tw b + 1) 0
    · refine ev_neg (by show ¬ t01 (0 ≤ r ∧ r < μ (tw b + 1) 0) = 0; rw [t01_pos e2]; decide) (ev_call hW ?_)
      by_cases e3 : 0 ≤ w ∧ w < 2
      · obtain ⟨h1, h2, h3, h4⟩ := R_place hR e1.1 e1.2
        refine ev_neg (by show ¬ t01 (0 ≤ w ∧ w < 2) = 0; rw [t01_pos e3]; decide) (ev_if (by omega) (ev_callP (R_weigh p hR e1.1 e1.2 d (by omega)) (fun _ μ1 ⟨hf1, hw⟩ => ?_)))
        have lp : ∀ (k : Nat) (i : Int) (μ' : Nat → Int → Int), 0 ≤ i → i + k = μ (tw b + 1) 2 → Fr [24, 25, 27] μ μ' → (∀ g, 0 ≤ g → g < i → μ' 27 g = wB b μ p g) → (∀ g, i ≤ g → g < μ (tw b + 1) 2 → μ' 27 g = wP b μ p g) → Ev (fun n => mRun (mCallN d) kX9_burglar n 51 [some (mP 0), some (mI p), some (mI r), some (mI w), some (mI i)] [] (SH, μ', RHO b)) b (fun v μ' => Fr scC μ μ' ∧ v = buV b μ p r w) := by
          intro k
          induction k with
          | zero =>
            intro i μ' i0 hk hf ha hb
            have hf' := fr_sc hf (sub_C (by decide))
            have hR1 := R_cls hf' hR
            have kt := scC_tw (b := b) hf'
            have k74 : μ' 74 = μ 74 := hf 74 (by decide)
            have k1 := kt (tw b + 1) (by simp [twL])
            have q1 : w32 (38 + p) = 38 + p := w32_id (by omega) (by omega)
            have hwB : ∀ g, 0 ≤ g → g < μ (tw b + 1) 2 → -1 ≤ wB b μ p g ∧ wB b μ p g ≤ 100000 := fun g g0 g1 => by
              have hmm := R_man hR g g0 (by omega)
              have hpw := fBu_le (x := (μ 74 (2 + g)).toNat) (by omega)
              unfold wB
              split
              · omega
              · omega
            refine ev_row (fun n => tX9_burglar_51 _ n b μ' p r w i) (ev_neg (by rw [k1]; omega) ?_)
            rw [q1, k74]
            refine ev_if (by omega) (ev_callP (R_meas hR1 (μ 74 (38 + p)) (fun g g0 g1 => by rw [k1] at g1; rw [ha g g0 (by omega)]; exact hwB g g0 g1) h1.1 (by omega) d (by omega)) (fun _ μ2 ⟨hf2, hL⟩ => ?_))
            have hd2 : μ2 28 r = dstN b μ (wB b μ p) (μ 74 (38 + p)) r := by
              rw [hL r e2.1 (by omega), dstN_same kt]
              exact dstN_congr (fun g g0 g1 => ha g g0 (by omega)) _ _
            have hff : Fr scC μ μ2 := fr_tr hf' (fr_sc hf2 (sub_C (by decide))) (fun a h => h)
            have hv : buV b μ p r w = buA b μ p r w := by unfold buV; rw [if_pos ⟨e1, e2, e3⟩]
            rw [hv]
            unfold buA
            refine ev_if (by omega) ?_
            rcases bur_both hR e1.1 e1.2 e2.1 e2.2 with ⟨c1, c2⟩ | ⟨⟨c0, c1⟩, c2⟩
            · refine ev_neg (by show ¬ μ2 28 r < 268435456; omega) (ev_ret ⟨hff, ?_⟩)
              rw [if_pos c1]
            · have hpc := pc_le (buB b μ p r).toNat
              have hD0 : 0 ≤ μ2 28 r := by omega
              have hD1 : μ2 28 r < 2147483648 := by omega
              refine ev_pos (by show μ2 28 r < 268435456; omega) (ev_br (fun e => ?_) (fun e => ?_))
              · refine ev_row (fun n => tX9_burglar_171 _ n b μ2 p r w _ _) (ev_ret ⟨hff, ?_⟩)
                rw [if_neg (by omega), if_pos e, iShr_n hD0 hD1 (by decide) (by decide), Nat.shiftRight_eq_div_pow]
                show (((μ2 28 r).toNat / 2 ^ 12 : Nat) : Int) = _
                omega
              · refine ev_row (fun n => tX9_burglar_171 _ n b μ2 p r w _ _) (ev_ret ⟨hff, ?_⟩)
                rw [if_neg (by omega), if_neg e, iAnd_n hD0 hD1 (by decide) (by decide)]
                have ee : (μ2 28 r).toNat &&& (4095 : Int).toNat = (μ2 28 r).toNat % 4096 := Nat.and_two_pow_sub_one_eq_mod (μ2 28 r).toNat 12
                rw [ee]; omega
          | succ k ih =>
            intro i μ' i0 hk hf ha hb
            have k74 : μ' 74 = μ 74 := hf 74 (by decide)
            have k1 := scC_tw (b := b) (fr_sc hf (sub_C (by decide))) (tw b + 1) (by simp [twL])
            have q1 : w32 (i + 1) = i + 1 := w32_id (by omega) (by omega)
            have q2 : w32 (2 + i) = 2 + i := w32_id (by omega) (by omega)
            have hmm := R_man hR i i0 (by omega)
            have hpw := fBu_le (x := (μ 74 (2 + i)).toNat) (by omega)
            have go : ∀ v : Int, v = wB b μ p i → Ev (fun n => mRun (mCallN d) kX9_burglar n 106 [some (mP 0), some (mI p), some (mI r), some (mI w), some (mI i)] [mI v, mI i, mP 27] (SH, μ', RHO b)) b (fun v μ' => Fr scC μ μ' ∧ v = buV b μ p r w) := fun v hv => by
              refine ev_row (fun n => tX9_burglar_106 _ n b μ' p r w i i v) (ev_if (by omega) ?_)
              rw [q1]
              refine ih (i + 1) _ (by omega) (by omega) (fr_m2 hf (by decide)) (fun g g0 g1 => ?_) (fun g g0 g1 => ?_)
              · rw [m2_at]
                by_cases e : g = i
                · rw [if_pos e, hv, e]
                · rw [if_neg e]; exact ha g g0 (by omega)
              · rw [m2_at, if_neg (by omega)]; exact hb g (by omega) g1
            refine ev_row (fun n => tX9_burglar_51 _ n b μ' p r w i) (ev_pos (by rw [k1]; omega) (ev_if (by omega) (ev_br (fun e => ?_) (fun e => ?_))))
            · rw [hb i (by omega) (by omega)] at e
              exact go 0 (by unfold wB; rw [if_pos e])
            · rw [hb i (by omega) (by omega)] at e
              rw [q2, k74]
              refine ev_if (by omega) (go _ ?_)
              rw [iShl_1 hmm.1 (by omega), fBu_int, w32_id (by omega) (by omega)]
              unfold wB
              rw [if_neg e]
        exact lp (μ (tw b + 1) 2).toNat 0 μ1 (by decide) (by omega) hf1 (fun g g0 g1 => absurd g0 (by omega)) (fun g g0 g1 => hw g g0 g1)
      · exact ev_pos (show t01 (0 ≤ w ∧ w < 2) = 0 from t01_neg e3) (no (fun h => e3 h.2.2))
    · exact ev_pos (show t01 (0 ≤ r ∧ r < μ (tw b + 1) 0) = 0 from t01_neg e2) (no (fun h => e2 h.2.1))
  · exact ev_pos (show t01 (0 ≤ p ∧ p < μ (tw b + 1) 3) = 0 from t01_neg e1) (no (fun h => e1 h.1))
