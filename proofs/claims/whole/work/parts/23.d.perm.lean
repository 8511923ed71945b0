/-! ===== men at gates: no one twice, and all who were told ===== -/
theorem isAt_iff {f : Int → Int} {m : Int} : ∀ n : Nat, isAt f m n = true ↔ ∃ g, 0 ≤ g ∧ g < (n : Int) ∧ f g = m
  | 0 => ⟨fun h => absurd h (by simp [isAt]), fun ⟨g, g0, g1, _⟩ => absurd g0 (by omega)⟩
  | n + 1 => by
    rw [isAt, Bool.or_eq_true, isAt_iff n, decide_eq_true_iff]
    constructor
    · rintro (⟨g, g0, g1, g2⟩ | h)
      · exact ⟨g, g0, by omega, g2⟩
      · exact ⟨n, by omega, by omega, h⟩
    · rintro ⟨g, g0, g1, g2⟩
      by_cases e : g = n
      · right; rw [← e]; exact g2
      · left; exact ⟨g, g0, by omega, g2⟩
/-- how many of the twelve stand at the first n -/
def cM (f : Int → Int) (n : Nat) : Nat := cnt (fun m => if isAt f m n then 0 else 1) 0 12
theorem cM_mono {f g : Int → Int} {n k : Nat} (h : ∀ m, 0 ≤ m → m < 12 → isAt f m n = true → isAt g m k = true) : cM f n ≤ cM g k := cnt_mono 12 (fun x x0 x1 hx => by
  by_cases e : isAt f x n = true
  · rw [if_pos (h x x0 x1 e)]; decide
  · rw [if_neg e] at hx; exact absurd hx (by decide))
theorem cM_lt {f g : Int → Int} {n k : Nat} {m : Int} (h : ∀ m, 0 ≤ m → m < 12 → isAt f m n = true → isAt g m k = true) (m0 : 0 ≤ m) (m1 : m < 12) (h1 : ¬ isAt f m n = true) (h2 : isAt g m k = true) : cM f n + 1 ≤ cM g k := cnt_lt (v := m) 12 (fun x x0 x1 hx => by
  by_cases e : isAt f x n = true
  · rw [if_pos (h x x0 x1 e)]; decide
  · rw [if_neg e] at hx; exact absurd hx (by decide)) m0 (by omega) (by rw [if_neg h1]; decide) (by rw [if_pos h2]; decide)
theorem cM_0 (f : Int → Int) : cM f 0 = 0 := by
  have h := cnt_mono (f := fun m => if isAt f m 0 then (0 : Int) else 1) (f' := fun _ => 1) (t := 0) (t' := 0) 12 (fun x _ _ hx => by
    rw [if_neg (by simp [isAt])] at hx; exact hx)
  have e : cnt (fun _ => (1 : Int)) 0 12 = 0 := by decide
  unfold cM; omega
theorem cnt_one {f f' : Int → Int} {v : Int} : ∀ n : Nat, (∀ x : Int, 0 ≤ x → x < n → f' x ≤ 0 → f x ≤ 0 ∨ x = v) → cnt f' 0 n ≤ cnt f 0 n + (if 0 ≤ v ∧ v < (n : Int) then 1 else 0)
  | 0, _ => by rw [cnt, cnt]; exact Nat.zero_le _
  | n + 1, h => by
    have ih := cnt_one (f := f) (f' := f') (v := v) n (fun x x0 x1 hx => h x x0 (by omega) hx)
    rw [cnt, cnt]
    have hn := h n (by omega) (by omega)
    by_cases e : v = n
    · rw [if_neg (by omega)] at ih
      rw [if_pos (by omega : 0 ≤ v ∧ v < ((n + 1 : Nat) : Int))]
      split <;> split <;> omega
    · by_cases e2 : f' n ≤ 0
      · rw [if_pos e2, if_pos ((hn e2).resolve_right (fun q => e q.symm))]
        split at ih <;> split <;> omega
      · rw [if_neg e2]
        split at ih <;> split <;> split <;> omega
theorem cM_step (f : Int → Int) (n : Nat) : cM f (n + 1) ≤ cM f n + 1 ∧ (isAt f (f n) n = true → cM f (n + 1) ≤ cM f n) := by
  refine ⟨?_, fun h => ?_⟩
  · have h := cnt_one (f := fun m => if isAt f m n then (0 : Int) else 1) (f' := fun m => if isAt f m (n + 1) then (0 : Int) else 1) (v := f n) 12 (fun x x0 x1 hx => by
      by_cases e : isAt f x (n + 1) = true
      · rw [isAt, Bool.or_eq_true, decide_eq_true_iff] at e
        rcases e with e | e
        · left; rw [if_pos e]; decide
        · exact Or.inr e.symm
      · rw [if_neg e] at hx; exact absurd hx (by decide))
    unfold cM
    split at h <;> omega
  · refine cM_mono (fun m m0 m1 hm => ?_)
    rw [isAt, Bool.or_eq_true, decide_eq_true_iff] at hm
    rcases hm with hm | hm
    · exact hm
    · rw [← hm]; exact h
theorem cM_le (f : Int → Int) : ∀ n : Nat, cM f n ≤ n
  | 0 => by rw [cM_0]; exact Nat.le_refl 0
  | n + 1 => by have := cM_le f n; have := (cM_step f n).1; omega
theorem cM_inj {f : Int → Int} : ∀ n : Nat, cM f n = n → ∀ g h, 0 ≤ g → g < (n : Int) → 0 ≤ h → h < (n : Int) → f g = f h → g = h
  | 0, _, g, h, g0, g1, _, _, _ => absurd g0 (by omega)
  | n + 1, hc, g, h, g0, g1, h0, h1, e => by
    have h2 := cM_le f n
    have h3 := cM_step f n
    have hn : cM f n = n := by omega
    have hnew : ¬ isAt f (f n) n = true := fun q => by have := h3.2 q; omega
    have ih := cM_inj n hn
    by_cases e1 : g = n
    · by_cases e2 : h = n
      · omega
      · exfalso; apply hnew; rw [isAt_iff]; exact ⟨h, h0, by omega, by rw [← e, e1]⟩
    · by_cases e2 : h = n
      · exfalso; apply hnew; rw [isAt_iff]; exact ⟨g, g0, by omega, by rw [e, e2]⟩
      · exact ih g h g0 (by omega) h0 (by omega) e
theorem inj_cM {f : Int → Int} : ∀ n : Nat, (∀ g, 0 ≤ g → g < (n : Int) → 0 ≤ f g ∧ f g < 12) → (∀ g h, 0 ≤ g → g < (n : Int) → 0 ≤ h → h < (n : Int) → f g = f h → g = h) → cM f n = n
  | 0, _, _ => cM_0 f
  | n + 1, hr, hi => by
    have ih := inj_cM n (fun g g0 g1 => hr g g0 (by omega)) (fun g h g0 g1 h0 h1 e => hi g h g0 (by omega) h0 (by omega) e)
    have hn := hr n (by omega) (by omega)
    have h := cM_lt (f := f) (g := f) (n := n) (k := n + 1) (m := f n) (fun m m0 m1 hm => by rw [isAt, hm]; rfl) hn.1 hn.2 (fun q => by
      rw [isAt_iff] at q
      obtain ⟨g, g0, g1, g2⟩ := q
      have := hi g n g0 (by omega) (by omega) (by omega) g2
      omega) (by rw [isAt, decide_eq_true rfl, Bool.or_true])
    have := (cM_step f n).1
    omega
/-- stood as told: each at a gate was told at one, nobody twice -/
def stT (f gm : Int → Int) (G : Nat) : Prop := (∀ g, 0 ≤ g → g < (G : Int) → ∃ h, 0 ≤ h ∧ h < (G : Int) ∧ gm h = f g) ∧ ∀ g h, 0 ≤ g → g < (G : Int) → 0 ≤ h → h < (G : Int) → f g = f h → g = h
theorem stT_onto {f gm : Int → Int} {G : Nat} (hg : ∀ g, 0 ≤ g → g < (G : Int) → 0 ≤ gm g ∧ gm g < 12) (hi : ∀ g h, 0 ≤ g → g < (G : Int) → 0 ≤ h → h < (G : Int) → gm g = gm h → g = h) (h : stT f gm G) : ∀ h, 0 ≤ h → h < (G : Int) → ∃ g, 0 ≤ g ∧ g < (G : Int) ∧ f g = gm h := fun x x0 x1 => by
  have hfr : ∀ g, 0 ≤ g → g < (G : Int) → 0 ≤ f g ∧ f g < 12 := fun g g0 g1 => by
    obtain ⟨y, y0, y1, y2⟩ := h.1 g g0 g1
    rw [← y2]; exact hg y y0 y1
  have c1 := inj_cM G hfr h.2
  have c2 := inj_cM G hg hi
  by_cases e : isAt f (gm x) G = true
  · exact (isAt_iff G).1 e
  · exfalso
    have := cM_lt (f := f) (g := gm) (n := G) (k := G) (m := gm x) (fun m m0 m1 hm => by
      rw [isAt_iff] at hm ⊢
      obtain ⟨g, g0, g1, g2⟩ := hm
      obtain ⟨y, y0, y1, y2⟩ := h.1 g g0 g1
      exact ⟨y, y0, y1, by rw [y2, g2]⟩) (hg x x0 x1).1 (hg x x0 x1).2 e ((isAt_iff G).2 ⟨x, x0, x1, rfl⟩)
    omega
theorem stT_set {f gm : Int → Int} {G : Nat} (hg : ∀ g, 0 ≤ g → g < (G : Int) → 0 ≤ gm g ∧ gm g < 12) (hi : ∀ g h, 0 ≤ g → g < (G : Int) → 0 ≤ h → h < (G : Int) → gm g = gm h → g = h) (hf : ∀ g, 0 ≤ g → g < (G : Int) → 0 ≤ f g ∧ f g < 12) : stT f gm G ↔ ∀ m, 0 ≤ m → m < 12 → (isAt f m G = true ↔ isAt gm m G = true) := by
  constructor
  · intro h m m0 m1
    rw [isAt_iff, isAt_iff]
    constructor
    · rintro ⟨g, g0, g1, g2⟩
      obtain ⟨y, y0, y1, y2⟩ := h.1 g g0 g1
      exact ⟨y, y0, y1, by rw [y2, g2]⟩
    · rintro ⟨g, g0, g1, g2⟩
      obtain ⟨y, y0, y1, y2⟩ := stT_onto hg hi h g g0 g1
      exact ⟨y, y0, y1, by rw [y2, g2]⟩
  · intro h
    refine ⟨fun g g0 g1 => ?_, ?_⟩
    · exact (isAt_iff G).1 ((h (f g) (hf g g0 g1).1 (hf g g0 g1).2).1 ((isAt_iff G).2 ⟨g, g0, g1, rfl⟩))
    · refine cM_inj G ?_
      have c2 := inj_cM G hg hi
      have h1 : cM gm G ≤ cM f G := cM_mono (fun m m0 m1 hm => (h m m0 m1).2 hm)
      have h2 := cM_le f G
      omega
/-- the bits of the men at the first k from i on -/
def orB (f : Int → Int) : Nat → Int → Int → Int
  | 0, _, acc => acc
  | k + 1, i, acc => orB f k (i + 1) (iOr acc (iShl 1 (f i)))
theorem orB_bits {f : Int → Int} : ∀ (k : Nat) (i acc : Int), (∀ g, i ≤ g → g < i + k → 0 ≤ f g ∧ f g < 12) → 0 ≤ acc → acc < ((2 ^ 12 : Nat) : Int) → (0 ≤ orB f k i acc ∧ orB f k i acc < ((2 ^ 12 : Nat) : Int)) ∧ ∀ r, 0 ≤ r → (bI (orB f k i acc) r = true ↔ (bI acc r = true ∨ ∃ g, i ≤ g ∧ g < i + k ∧ f g = r))
  | 0, i, acc, _, a0, a1 => ⟨⟨a0, a1⟩, fun r _ => ⟨fun h => Or.inl h, fun h => h.elim id (fun ⟨g, g0, g1, _⟩ => absurd g0 (by omega))⟩⟩
  | k + 1, i, acc, h, a0, a1 => by
    have hi := h i (by omega) (by omega)
    obtain ⟨⟨b0, b1⟩, b2⟩ := iOr_bit (k := 12) (by decide) a0 a1 hi.1 (by omega)
    obtain ⟨c1, c2⟩ := orB_bits k (i + 1) _ (fun g g0 g1 => h g (by omega) (by omega)) b0 b1
    rw [orB]
    refine ⟨c1, fun r r0 => ?_⟩
    rw [c2 r r0, b2 r r0, Bool.or_eq_true, decide_eq_true_iff]
    constructor
    · rintro ((q | q) | ⟨g, g0, g1, g2⟩)
      · exact Or.inl q
      · exact Or.inr ⟨i, by omega, by omega, q.symm⟩
      · exact Or.inr ⟨g, by omega, by omega, g2⟩
    · rintro (q | ⟨g, g0, g1, g2⟩)
      · exact Or.inl (Or.inl q)
      · by_cases e : g = i
        · left; right; rw [← g2, e]
        · right; exact ⟨g, by omega, by omega, g2⟩
theorem sX7_standingBits (c : Bool) (b : Bool) (μ : Nat → Int → Int) {G : Nat} (hG : μ (tw c + 1) 2 = G) (hG1 : G ≤ 12) : ∀ d, 1 ≤ d → mCallN d 203 [mP (tw c)] (SH, μ, RHO b) = some (orB (μ (tw c + 10)) G 0 0, SH, μ, RHO b) := deep fun d _ => by
  refine cal_eq (cal_ev (fun r => call_X7_standingBits d b μ c) (ev_row (fun m => tX7_standingBits_0 _ m b μ c) ?_))
  have lp : ∀ (k : Nat) (i acc : Int), 0 ≤ i → i + k = G → Ev (fun m => mRun (mCallN d) kX7_standingBits m 4 [some (mP (tw c)), some (mI acc), some (mI i)] [] (SH, μ, RHO b)) b (fun v' μ2 => v' = orB (μ (tw c + 10)) k i acc ∧ μ2 = μ) := by
    intro k
    induction k with
    | zero =>
      intro i acc h0 hk
      exact ev_row (fun m => tX7_standingBits_4 _ m b μ acc i c) (ev_neg (by omega) (ev_ret ⟨rfl, rfl⟩))
    | succ k ih =>
      intro i acc h0 hk
      refine ev_row (fun m => tX7_standingBits_4 _ m b μ acc i c) (ev_pos (by omega) (ev_if (by omega) ?_))
      rw [w32_id (by omega) (by omega), orB]
      exact ih (i + 1) _ (by omega) (by omega)
  exact lp G 0 0 (by decide) (by omega)
