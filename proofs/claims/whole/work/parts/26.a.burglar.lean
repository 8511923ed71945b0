/-! ===== the fewest men: sums over sets ===== -/
def sF (f : Nat → Nat) (P : Nat → Bool) : Nat → Nat
  | 0 => 0
  | n + 1 => sF f P n + (if P n = true then f n else 0)
def fBu (x : Nat) : Nat := 4096 + 2 ^ x
theorem sF_congr {f : Nat → Nat} {P Q : Nat → Bool} : ∀ n : Nat, (∀ x, x < n → P x = Q x) → sF f P n = sF f Q n
  | 0, _ => rfl
  | n + 1, h => by rw [sF, sF, sF_congr n (fun x hx => h x (by omega)), h n (by omega)]
theorem sF_add {f : Nat → Nat} {P : Nat → Bool} {m : Nat} : ∀ n : Nat, sF f (fun x => P x || decide (x = m)) n ≤ sF f P n + (if m < n then f m else 0)
  | 0 => by rw [sF, sF]; exact Nat.zero_le _
  | n + 1 => by
    have ih := sF_add (f := f) (P := P) (m := m) n
    rw [sF, sF]
    by_cases e : n = m
    · subst e
      rw [if_neg (Nat.lt_irrefl n)] at ih
      rw [if_pos (Nat.lt_succ_self n)]
      split <;> split <;> omega
    · rw [decide_eq_false e, Bool.or_false]
      by_cases q : m < n
      · rw [if_pos q] at ih
        rw [if_pos (by omega : m < n + 1)]; omega
      · rw [if_neg q] at ih
        rw [if_neg (by omega : ¬ m < n + 1)]; omega
theorem sF_del {f : Nat → Nat} {P : Nat → Bool} {m : Nat} : ∀ n : Nat, sF f P n = sF f (fun x => P x && !decide (x = m)) n + (if m < n ∧ P m = true then f m else 0)
  | 0 => by rw [sF, sF, if_neg (by omega)]
  | n + 1 => by
    have ih := sF_del (f := f) (P := P) (m := m) n
    rw [sF, sF]
    by_cases e : n = m
    · subst e
      rw [if_neg (by omega), Nat.add_zero] at ih
      rw [ih, decide_eq_true rfl, Bool.not_true, Bool.and_false, if_neg (by decide : ¬ (false = true)), Nat.add_zero]
      by_cases q : P n = true
      · rw [if_pos q, if_pos ⟨Nat.lt_succ_self n, q⟩]
      · rw [if_neg q, if_neg (fun h => q h.2)]
    · have hq : (if m < n + 1 ∧ P m = true then f m else 0) = (if m < n ∧ P m = true then f m else 0) := by
        by_cases q : m < n ∧ P m = true
        · rw [if_pos q, if_pos (show m < n + 1 ∧ P m = true from ⟨by omega, q.2⟩)]
        · rw [if_neg q, if_neg (show ¬ (m < n + 1 ∧ P m = true) from fun h => q ⟨by omega, h.2⟩)]
      rw [decide_eq_false e, Bool.not_false, Bool.and_true, ih, hq]
      omega
theorem sF_one {P : Nat → Bool} : ∀ n : Nat, sF (fun _ => 1) P n ≤ n
  | 0 => Nat.le_refl 0
  | n + 1 => by have := sF_one (P := P) n; rw [sF]; split <;> omega
/-- how many bits -/
def pc (s : Nat) : Nat := sF (fun _ => 1) s.testBit 12
def pcOk (s : Nat) : Bool := decide (sF fBu s.testBit 12 = 4096 * pc s + s) && decide (s = 0 ∨ pc (s &&& (s - 1)) + 1 = pc s)
theorem pcOk_a : (List.range 4096).all pcOk = true := by decide +kernel
theorem pc_ok {s : Nat} (h : s < 4096) : sF fBu s.testBit 12 = 4096 * pc s + s ∧ (s = 0 ∨ pc (s &&& (s - 1)) + 1 = pc s) := by
  have := List.all_eq_true.mp pcOk_a s (List.mem_range.mpr h)
  unfold pcOk at this
  rw [Bool.and_eq_true, decide_eq_true_eq, decide_eq_true_eq] at this
  exact this
theorem pc_le (s : Nat) : pc s ≤ 12 := sF_one 12
theorem kBits_pc : ∀ (f s : Nat) (n : Int), s < 4096 → pc s ≤ f → 0 ≤ n → n + f ≤ 1000 → kBits f (s : Int) n = n + ((pc s : Nat) : Int) := by
  intro f
  induction f with
  | zero =>
    intro s n h hp n0 n1
    have e : pc s = 0 := by omega
    rw [e]
    show n = n + ((0 : Nat) : Int)
    omega
  | succ f ih =>
    intro s n h hp n0 n1
    rw [kBits]
    by_cases e : s = 0
    · subst e
      have h2 : pc 0 = 0 := by decide
      rw [if_pos (by decide), h2]
      omega
    · have h1 := (pc_ok h).2.resolve_left e
      have e2 : ∀ _ : True, iAnd (s : Int) (w32 ((s : Int) - 1)) = ((s &&& (s - 1) : Nat) : Int) := fun _ => by
        rw [w32_id (by omega) (by omega), iAnd_n (by omega) (by omega) (by omega) (by omega), Int.toNat_natCast, show ((s : Int) - 1).toNat = s - 1 by omega]
      have e3 : w32 (n + 1) = n + 1 := w32_id (by omega) (by omega)
      rw [if_neg (by omega), e2 trivial, e3, ih _ _ (Nat.lt_of_le_of_lt Nat.and_le_left h) (by omega) (by omega) (by omega)]
      omega
theorem bc_pc {x : Int} (h0 : 0 ≤ x) (h1 : x < 4096) : bcAll x = (pc x.toNat : Nat) := by
  have h := kBits_pc 12 x.toNat 0 (by omega) (pc_le _) (by decide) (by decide)
  rw [show ((x.toNat : Nat) : Int) = x by omega] at h
  rw [(bcOk_of h0 h1).1, h]; omega
/-! ways by gates that are open -/
def Rc (fa fb : Int → Int) (ok : Int → Prop) (n : Nat) : Nat → Int → Int → Prop
  | 0, s, v => v = s
  | h + 1, s, v => ∃ u g, 0 ≤ g ∧ g < (n : Int) ∧ ok g ∧ ((fa g = u ∧ fb g = v) ∨ (fb g = u ∧ fa g = v)) ∧ Rc fa fb ok n h s u
theorem Rc_mono {fa fb : Int → Int} {ok ok' : Int → Prop} {n : Nat} {s : Int} (hk : ∀ g, 0 ≤ g → g < (n : Int) → ok g → ok' g) : ∀ (h : Nat) (v : Int), Rc fa fb ok n h s v → Rc fa fb ok' n h s v
  | 0, _, e => e
  | h + 1, v, ⟨u, g, g0, g1, o, huv, r⟩ => ⟨u, g, g0, g1, hk g g0 g1 o, huv, Rc_mono hk h u r⟩
theorem Wk_Rc {fa fb c : Int → Int} {n : Nat} {s : Int} : ∀ (h : Nat) (v : Int), Wk fa fb (w0 c) n h s v 0 → Rc fa fb (fun g => ¬ 0 < c g) n h s v
  | 0, v, hk => hk.1
  | h + 1, v, ⟨u, g, g0, g1, gw, huv, r⟩ => by
    have e : ¬ 0 < c g := fun q => gw (by unfold w0; rw [if_pos q])
    have e2 : w0 c g = 0 := by unfold w0; rw [if_neg e]
    rw [e2] at r
    exact ⟨u, g, g0, g1, e, huv, Wk_Rc h u r⟩
theorem Rc_Wk {fa fb c : Int → Int} {n : Nat} {s : Int} : ∀ (h : Nat) (v : Int), Rc fa fb (fun g => ¬ 0 < c g) n h s v → Wk fa fb (w0 c) n h s v 0
  | 0, v, e => ⟨e, rfl⟩
  | h + 1, v, ⟨u, g, g0, g1, o, huv, r⟩ => by
    have e2 : w0 c g = 0 := by unfold w0; rw [if_neg o]
    exact ⟨u, g, g0, g1, by rw [e2]; decide, huv, by rw [e2]; exact Rc_Wk h u r⟩
/-- come to for nothing: by open gates -/
theorem dst_Rc {fa fb cost : Int → Int} {n : Nat} {s r : Int} (hg : gOk fa fb cost n 10) (hc : ∀ g, 0 ≤ g → g < (n : Int) → 0 ≤ cost g) (hs0 : 0 ≤ s) (hs1 : s < 10) (r0 : 0 ≤ r) (r1 : r < 10) : dst fa fb cost n s r = 0 ↔ ∃ h, Rc fa fb (fun g => ¬ 0 < cost g) n h s r := by
  have hD := dst_dist hg hs0 hs1
  obtain ⟨p0, p1, p2⟩ := hD.2.1 r r0 (by omega)
  constructor
  · intro e
    rcases p2 with p2 | ⟨k, -, hk⟩
    · omega
    · rw [e] at hk
      exact ⟨k, Wk_Rc k r (Wk_zero hg hc hs0 hs1 k r hk)⟩
  · rintro ⟨h, hk⟩
    have hk2 := Wk_mono (w' := cost) (fun g g0 g1 gw => by
      unfold w0 at gw ⊢
      have := hc g g0 g1
      by_cases q : 0 < cost g
      · rw [if_pos q] at gw; exact absurd rfl gw
      · rw [if_neg q]; omega) h r 0 (Rc_Wk h r hk)
    have := Dist_le hD h r 0 hk2
    omega
/-- men who let one come there weigh no less than the least way -/
theorem bur_up {fa fb w man : Int → Int} {n N : Nat} {V s : Int} {F : Int → Int} (hD : Dist fa fb w n N V s F) (hm : ∀ g, 0 ≤ g → g < (n : Int) → 0 ≤ man g ∧ man g < 12) (hi : ∀ g h, 0 ≤ g → g < (n : Int) → 0 ≤ h → h < (n : Int) → man g = man h → g = h) (hw : ∀ g, 0 ≤ g → g < (n : Int) → w g = 0 ∨ w g = (fBu (man g).toNat : Nat)) : ∀ (h : Nat) (P : Nat → Bool) (v : Int), Rc fa fb (fun g => w g = 0 ∨ P (man g).toNat = true) n h s v → F v ≤ (sF fBu P 12 : Nat) := by
  intro h
  induction h using Nat.strongRecOn with
  | ind h ih =>
    intro P v hr
    cases h with
    | zero => rw [show v = s from hr, hD.1]; omega
    | succ h =>
      obtain ⟨u, g, g0, g1, o, huv, r⟩ := hr
      have hge : w g ≠ -1 := by rcases hw g g0 g1 with e | e <;> omega
      have hed : F v ≤ F u + w g := by
        have h3 := hD.2.2 g g0 g1 hge
        rcases huv with ⟨a, b⟩ | ⟨a, b⟩
        · rw [a, b] at h3; omega
        · rw [a, b] at h3; omega
      have hu := ih h (by omega) P u r
      by_cases e0 : w g = 0
      · omega
      · have hP : P (man g).toNat = true := o.resolve_left e0
        have hwg : w g = (fBu (man g).toNat : Nat) := (hw g g0 g1).resolve_left e0
        by_cases q : ∃ h', h' ≤ h ∧ ∃ x, Rc fa fb (fun g => w g = 0 ∨ P (man g).toNat = true) n h' s x ∧ F v ≤ F x
        · obtain ⟨h', hh, x, hx, hf⟩ := q
          have := ih h' (by omega) P x hx
          omega
        · have hno : ∀ (h' : Nat) (x : Int), h' ≤ h → Rc fa fb (fun g => w g = 0 ∨ P (man g).toNat = true) n h' s x → x ≠ v := fun h' x hh hx e => q ⟨h', hh, x, hx, by rw [e]; exact Int.le_refl _⟩
          have key : ∀ (h' : Nat) (x : Int), h' ≤ h → Rc fa fb (fun g => w g = 0 ∨ P (man g).toNat = true) n h' s x → Rc fa fb (fun g' => w g' = 0 ∨ (P (man g').toNat && !decide ((man g').toNat = (man g).toNat)) = true) n h' s x := by
            intro h'
            induction h' with
            | zero => intro x _ hx; exact hx
            | succ h' ih2 =>
              intro x hh hx
              have hx0 := hx
              obtain ⟨u', g', g0', g1', o', huv', r'⟩ := hx
              refine ⟨u', g', g0', g1', ?_, huv', ih2 u' (by omega) r'⟩
              rcases o' with o' | o'
              · exact Or.inl o'
              · right
                rw [o', Bool.true_and, Bool.not_eq_true', decide_eq_false_iff_not]
                intro e
                have m1 := hm g g0 g1
                have m2' := hm g' g0' g1'
                have eg : g' = g := hi g' g g0' g1' g0 g1 (by omega)
                subst eg
                have n1 := hno _ _ (by omega) r'
                have n2 := hno _ _ hh hx0
                rcases huv with ⟨a, b⟩ | ⟨a, b⟩ <;> rcases huv' with ⟨a', b'⟩ | ⟨a', b'⟩ <;> omega
          have hu2 := ih h (by omega) (fun x => P x && !decide (x = (man g).toNat)) u (key h u (Nat.le_refl h) r)
          have hd := sF_del (f := fBu) (P := P) (m := (man g).toNat) 12
          have m1 := hm g g0 g1
          rw [if_pos ⟨by omega, hP⟩] at hd
          omega
/-- the men of a way -/
theorem bur_low {fa fb w man : Int → Int} {n : Nat} {s : Int} (hm : ∀ g, 0 ≤ g → g < (n : Int) → 0 ≤ man g ∧ man g < 12) (hw : ∀ g, 0 ≤ g → g < (n : Int) → w g = 0 ∨ w g = (fBu (man g).toNat : Nat)) : ∀ (h : Nat) (v c : Int), Wk fa fb w n h s v c → ∃ P : Nat → Bool, Rc fa fb (fun g => w g = 0 ∨ P (man g).toNat = true) n h s v ∧ (sF fBu P 12 : Nat) ≤ c ∧ ∀ x, P x = true → ∃ g, 0 ≤ g ∧ g < (n : Int) ∧ (man g).toNat = x ∧ w g ≠ 0
  | 0, v, c, hk => ⟨fun _ => false, hk.1, by rw [hk.2]; decide, fun x hx => absurd hx Bool.false_ne_true⟩
  | h + 1, v, c, ⟨u, g, g0, g1, gw, huv, r⟩ => by
    obtain ⟨P, p1, p2, p3⟩ := bur_low hm hw h u _ r
    by_cases e : w g = 0
    · exact ⟨P, ⟨u, g, g0, g1, Or.inl e, huv, p1⟩, by omega, p3⟩
    · have hwg := (hw g g0 g1).resolve_left e
      have m1 := hm g g0 g1
      have ha := sF_add (f := fBu) (P := P) (m := (man g).toNat) 12
      rw [if_pos (by omega)] at ha
      refine ⟨fun x => P x || decide (x = (man g).toNat), ⟨u, g, g0, g1, Or.inr (by show (P (man g).toNat || decide ((man g).toNat = (man g).toNat)) = true; rw [decide_eq_true rfl, Bool.or_true]), huv, ?_⟩, by omega, fun x hx => ?_⟩
      · refine Rc_mono (fun g' _ _ o => ?_) h u p1
        rcases o with o | o
        · exact Or.inl o
        · exact Or.inr (by show (P (man g').toNat || decide ((man g').toNat = (man g).toNat)) = true; rw [o, Bool.true_or])
      · rw [Bool.or_eq_true, decide_eq_true_eq] at hx
        rcases hx with hx | hx
        · exact p3 x hx
        · exact ⟨g, g0, g1, hx.symm, e⟩
/-- the best of the first sets -/
def bsS (fe : Nat → Bool) : Nat → Int
  | 0 => -1
  | k + 1 => if fe k = true ∧ (bsS fe k = -1 ∨ pc k < pc (bsS fe k).toNat) then (k : Int) else bsS fe k
theorem bsS_ok {fe : Nat → Bool} : ∀ k : Nat, k ≤ 4096 → (bsS fe k = -1 ∧ ∀ s, s < k → ¬ fe s = true) ∨ ((0 ≤ bsS fe k ∧ bsS fe k < k) ∧ fe (bsS fe k).toNat = true ∧ ∀ s, s < k → fe s = true → 4096 * pc (bsS fe k).toNat + (bsS fe k).toNat ≤ 4096 * pc s + s)
  | 0, _ => Or.inl ⟨rfl, fun s hs => absurd hs (by omega)⟩
  | k + 1, hk => by
    have ih := bsS_ok (fe := fe) k (by omega)
    rw [bsS]
    by_cases c : fe k = true ∧ (bsS fe k = -1 ∨ pc k < pc (bsS fe k).toNat)
    · rw [if_pos c]
      refine Or.inr ⟨⟨by omega, by omega⟩, by rw [Int.toNat_natCast]; exact c.1, fun s hs hfs => ?_⟩
      rw [Int.toNat_natCast]
      by_cases e : s = k
      · subst e; exact Nat.le_refl _
      · rcases ih with ⟨i1, i2⟩ | ⟨i1, i2, i3⟩
        · exact absurd hfs (i2 s (by omega))
        · have h1 := i3 s (by omega) hfs
          rcases c.2 with c2 | c2
          · omega
          · omega
    · rw [if_neg c]
      rcases ih with ⟨i1, i2⟩ | ⟨i1, i2, i3⟩
      · refine Or.inl ⟨i1, fun s hs hfs => ?_⟩
        by_cases e : s = k
        · subst e; exact c ⟨hfs, Or.inl i1⟩
        · exact i2 s (by omega) hfs
      · refine Or.inr ⟨⟨i1.1, by omega⟩, i2, fun s hs hfs => ?_⟩
        by_cases e : s = k
        · subst e
          have : ¬ pc s < pc (bsS fe s).toNat := fun q => c ⟨hfs, Or.inr q⟩
          omega
        · exact i3 s (by omega) hfs
/-- what both come to -/
theorem bur_main {fa fb w man : Int → Int} {n M : Nat} {s r : Int} {fe : Nat → Bool} (hg : gOk fa fb w n 10) (hs0 : 0 ≤ s) (hs1 : s < 10) (r0 : 0 ≤ r) (r1 : r < 10) (hM : M ≤ 12) (hm : ∀ g, 0 ≤ g → g < (n : Int) → 0 ≤ man g ∧ man g < M) (hi : ∀ g h, 0 ≤ g → g < (n : Int) → 0 ≤ h → h < (n : Int) → man g = man h → g = h) (hw : ∀ g, 0 ≤ g → g < (n : Int) → w g = 0 ∨ w g = (fBu (man g).toNat : Nat)) (hfe : ∀ k, k < 2 ^ M → (∀ x, k.testBit x = true → ∃ g, 0 ≤ g ∧ g < (n : Int) ∧ (man g).toNat = x ∧ w g ≠ 0) → (∃ h, Rc fa fb (fun g => w g = 0 ∨ k.testBit (man g).toNat = true) n h s r) → fe k = true) (hfe2 : ∀ k, k < 2 ^ M → fe k = true → ∃ h, Rc fa fb (fun g => w g = 0 ∨ k.testBit (man g).toNat = true) n h s r) : (bsS fe (2 ^ M) = -1 ∧ dst fa fb w n s r = 268435456) ∨ ((0 ≤ bsS fe (2 ^ M) ∧ bsS fe (2 ^ M) < 4096) ∧ dst fa fb w n s r = 4096 * (pc (bsS fe (2 ^ M)).toNat : Nat) + bsS fe (2 ^ M)) := by
  have hD := dst_dist hg hs0 hs1
  have hm12 : ∀ g, 0 ≤ g → g < (n : Int) → 0 ≤ man g ∧ man g < 12 := fun g g0 g1 => by have := hm g g0 g1; omega
  have hp : 2 ^ M ≤ 4096 := Nat.pow_le_pow_right (by decide : 0 < 2) hM
  obtain ⟨p0, p1, p2⟩ := hD.2.1 r r0 (by omega)
  -- a way gives a set
  have hset : dst fa fb w n s r ≠ 268435456 → ∃ k, k < 2 ^ M ∧ fe k = true ∧ ((4096 * pc k + k : Nat) : Int) ≤ dst fa fb w n s r := fun hne => by
    obtain ⟨h, -, hk⟩ := p2.resolve_left hne
    obtain ⟨P, q1, q2, q3⟩ := bur_low hm12 hw h r _ hk
    obtain ⟨⟨s0, s1⟩, s2⟩ := setB_bits (z := fun x => P x.toNat) (m := M) (by omega) M 0 0 (by decide) (by omega) (by decide) (by have := Nat.two_pow_pos M; omega)
    have hbit : ∀ x : Nat, (setB (fun x => P x.toNat) M 0 0).toNat.testBit x = P x := fun x => by
      have h1 := s2 x (by omega)
      rw [bI_zero, Bool.false_or] at h1
      by_cases e : x < M
      · rw [decide_eq_true (by omega), Bool.true_and] at h1
        exact h1
      · rw [decide_eq_false (by omega), Bool.false_and] at h1
        have h2 : (setB (fun x => P x.toNat) M 0 0).toNat.testBit x = false := h1
        rw [h2]
        by_cases q : P x = true
        · obtain ⟨g, g0, g1, g2, -⟩ := q3 x q
          have := hm g g0 g1
          omega
        · rw [Bool.eq_false_iff.2 q]
    have hlt : (setB (fun x => P x.toNat) M 0 0).toNat < 2 ^ M := by omega
    refine ⟨(setB (fun x => P x.toNat) M 0 0).toNat, hlt, ?_, ?_⟩
    · refine hfe _ hlt (fun x hx => q3 x (by rw [← hbit]; exact hx)) ⟨h, Rc_mono (fun g g0 g1 o => ?_) h r q1⟩
      rcases o with o | o
      · exact Or.inl o
      · exact Or.inr (by rw [hbit]; exact o)
    · rw [← (pc_ok (by omega : (setB (fun x => P x.toNat) M 0 0).toNat < 4096)).1, sF_congr 12 (fun x _ => hbit x)]
      exact q2
  rcases bsS_ok (fe := fe) (2 ^ M) hp with ⟨b1, b2⟩ | ⟨b1, b2, b3⟩
  · left
    refine ⟨b1, ?_⟩
    by_cases e : dst fa fb w n s r = 268435456
    · exact e
    · obtain ⟨k, k1, k2, -⟩ := hset e
      exact absurd k2 (b2 k k1)
  · right
    refine ⟨⟨b1.1, by omega⟩, ?_⟩
    obtain ⟨h, hr⟩ := hfe2 _ (by omega) b2
    have hup := bur_up hD hm12 hi hw h _ r hr
    have hpk := (pc_ok (by omega : (bsS fe (2 ^ M)).toNat < 4096)).1
    have hpl := pc_le (bsS fe (2 ^ M)).toNat
    rw [hpk] at hup
    obtain ⟨k, k1, k2, k3⟩ := hset (by omega)
    have := b3 k k1 k2
    omega
