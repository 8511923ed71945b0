/-! ===== what tests and bribes come to: codes by the reference's numbers ===== -/
def clipI (v : Int) : Int := if 1000000 < v then 1000000 else if v < -1000000 then -1000000 else v
def flo (a b : Int) : Int := if b = 0 then 0 else if a.tmod b ≠ 0 ∧ ¬ (a < 0 ↔ b < 0) then a.tdiv b - 1 else a.tdiv b
def opf (y a b : Int) : Int := if y = 1 then clipI (a + b) else if y = 2 then clipI (a - b) else if y = 3 then clipI (a * b) else if y = 4 then flo a b else if y = 5 then (if b < a then b else a) else if y = 6 then (if a < b then b else a) else if y = 12 then t01 (a < b) else if y = 13 then t01 (b < a) else if y = 14 then t01 (a = b) else if y = 15 then a * b else t01 (0 < a + b)
/-- the class's code of the reference's -/
def cOf (y : Int) : Int := if 1000 ≤ y then y - 1000 else if y = 18 then 1 else if y = 17 then -10 else if y = 16 then -11 else if y = 15 then -12 else if 12 ≤ y then -1 - y else if 7 ≤ y then 6 - y else -15 - y
/-- kinds on the stack: true a truth, false a number -/
def Ty (ts : List Bool) (y : Int) (ts' : List Bool) : Prop :=
  (((1000 ≤ y ∧ y ≤ 10999) ∨ (7 ≤ y ∧ y ≤ 11)) ∧ ts.length < 64 ∧ ts' = false :: ts) ∨ (y = 18 ∧ ts.length < 64 ∧ ts' = true :: ts) ∨ (y = 17 ∧ ts' = ts ∧ ∃ r, ts = true :: r) ∨ ((y = 15 ∨ y = 16) ∧ ∃ r, ts = true :: true :: r ∧ ts' = true :: r) ∨ (∃ r, ts = false :: false :: r ∧ ((1 ≤ y ∧ y ≤ 6 ∧ ts' = false :: r) ∨ (12 ≤ y ∧ y ≤ 14 ∧ ts' = true :: r)))
def TyR (c : Int → Int) : Nat → Int → List Bool → List Bool → Prop
  | 0, _, ts, ts' => ts = ts'
  | k + 1, i, ts, ts' => ∃ t1, Ty ts (c i) t1 ∧ TyR c k (i + 1) t1 ts'
def evS (ask : Int → Int) (vs : List Int) (y : Int) : List Int :=
  if 1000 ≤ y then (y - 1000) :: vs else if y = 18 then 1 :: vs else if 7 ≤ y ∧ y ≤ 11 then ask (y - 7) :: vs else if y = 17 then (match vs with
    | v :: r => (1 - v) :: r
    | [] => []) else match vs with
    | b :: a :: r => opf y a b :: r
    | _ => vs
def evR (ask c : Int → Int) : Nat → Int → List Int → List Int
  | 0, _, vs => vs
  | k + 1, i, vs => evR ask c k (i + 1) (evS ask vs (c i))
def vK (t : Bool) (v : Int) : Prop := if t then v = 0 ∨ v = 1 else -1000000 ≤ v ∧ v ≤ 1000000
def vOk : List Bool → List Int → Prop
  | [], [] => True
  | t :: ts, v :: vs => vK t v ∧ vOk ts vs
  | _, _ => False
theorem vOk_len : ∀ {ts : List Bool} {vs : List Int}, vOk ts vs → ts.length = vs.length
  | [], [], _ => rfl
  | _ :: ts, _ :: vs, h => by rw [List.length_cons, List.length_cons, vOk_len h.2]
  | [], _ :: _, h => absurd h (by simp [vOk])
  | _ :: _, [], h => absurd h (by simp [vOk])
theorem vOk_cons {t : Bool} {ts : List Bool} {vs : List Int} (h : vOk (t :: ts) vs) : ∃ v r, vs = v :: r ∧ vK t v ∧ vOk ts r := by
  cases vs with
  | nil => exact absurd h (by simp [vOk])
  | cons v r => exact ⟨v, r, rfl, h.1, h.2⟩
theorem clipI_in (v : Int) : -1000000 ≤ clipI v ∧ clipI v ≤ 1000000 := by
  unfold clipI
  split
  · omega
  · split <;> omega
theorem flo_in {a b : Int} (h1 : -1000000 ≤ a) (h2 : a ≤ 1000000) : -1000000 ≤ flo a b ∧ flo a b ≤ 1000000 := by
  unfold flo
  by_cases e : b = 0
  · rw [if_pos e]; omega
  · rw [if_neg e]
    have h3 := tdiv_in a b
    by_cases e2 : a.tmod b ≠ 0 ∧ ¬ (a < 0 ↔ b < 0)
    · rw [if_pos e2]
      have h4 := Int.mul_tdiv_add_tmod a b
      refine ⟨?_, by omega⟩
      by_cases e3 : a.tdiv b = -1000000
      · exfalso
        have h5 := Int.natAbs_tdiv a b
        rw [e3] at h5
        have h6 : b.natAbs ≤ 1 := by
          rcases Nat.lt_or_ge 1 b.natAbs with h | h
          · have : (a.natAbs).div b.natAbs ≤ a.natAbs / 2 := Nat.div_le_div_left h (by decide)
            have h7 : (Int.natAbs (-1000000)) = 1000000 := rfl
            omega
          · exact h
        have h8 : b = 1 ∨ b = -1 := by omega
        rcases h8 with h8 | h8
        · rw [h8, Int.tmod_one] at e2; exact e2.1 rfl
        · rw [h8, Int.tmod_neg, Int.tmod_one] at e2; exact e2.1 rfl
      · omega
    · rw [if_neg e2]; omega
theorem opf_ty {y a b : Int} : (((1 ≤ y ∧ y ≤ 6) ∧ vK false a ∧ vK false b → vK false (opf y a b)) ∧ ((12 ≤ y ∧ y ≤ 14) → vK true (opf y a b))) ∧ ((y = 15 ∨ y = 16) ∧ vK true a ∧ vK true b → vK true (opf y a b)) := by
  refine ⟨⟨fun ⟨h, ha, hb⟩ => ?_, fun h => ?_⟩, fun ⟨h, ha, hb⟩ => ?_⟩
  · have ha' : -1000000 ≤ a ∧ a ≤ 1000000 := ha
    have hb' : -1000000 ≤ b ∧ b ≤ 1000000 := hb
    show -1000000 ≤ opf y a b ∧ opf y a b ≤ 1000000
    unfold opf
    by_cases e1 : y = 1
    · rw [if_pos e1]; exact clipI_in _
    rw [if_neg e1]
    by_cases e2 : y = 2
    · rw [if_pos e2]; exact clipI_in _
    rw [if_neg e2]
    by_cases e3 : y = 3
    · rw [if_pos e3]; exact clipI_in _
    rw [if_neg e3]
    by_cases e4 : y = 4
    · rw [if_pos e4]; exact flo_in ha'.1 ha'.2
    rw [if_neg e4]
    by_cases e5 : y = 5
    · rw [if_pos e5]; split <;> omega
    rw [if_neg e5, if_pos (by omega)]; split <;> omega
  · show opf y a b = 0 ∨ opf y a b = 1
    unfold opf
    rw [if_neg (by omega), if_neg (by omega), if_neg (by omega), if_neg (by omega), if_neg (by omega), if_neg (by omega)]
    by_cases e1 : y = 12
    · rw [if_pos e1]; exact t01_01 _
    rw [if_neg e1]
    by_cases e2 : y = 13
    · rw [if_pos e2]; exact t01_01 _
    rw [if_neg e2, if_pos (by omega)]; exact t01_01 _
  · have ha' : a = 0 ∨ a = 1 := ha
    have hb' : b = 0 ∨ b = 1 := hb
    show opf y a b = 0 ∨ opf y a b = 1
    unfold opf
    rw [if_neg (by omega), if_neg (by omega), if_neg (by omega), if_neg (by omega), if_neg (by omega), if_neg (by omega), if_neg (by omega), if_neg (by omega), if_neg (by omega)]
    by_cases e1 : y = 15
    · rw [if_pos e1]
      rcases ha' with h1 | h1 <;> rcases hb' with h2 | h2 <;> rw [h1, h2] <;> decide
    · rw [if_neg e1]; exact t01_01 _
theorem evS_ok {ask : Int → Int} {ts ts' : List Bool} {vs : List Int} {y : Int} (ha : ∀ j, 0 ≤ j → j < 5 → 0 ≤ ask j ∧ ask j ≤ 1000) (hv : vOk ts vs) (ht : Ty ts y ts') : vOk ts' (evS ask vs y) := by
  unfold evS
  rcases ht with ⟨h, -, h3⟩ | ⟨h, -, h3⟩ | ⟨h, h3, r, h4⟩ | ⟨h, r, h3, h4⟩ | ⟨r, h3, h4⟩
  · rw [h3]
    by_cases e : 1000 ≤ y
    · rw [if_pos e]; exact ⟨show -1000000 ≤ y - 1000 ∧ y - 1000 ≤ 1000000 by omega, hv⟩
    · rw [if_neg e, if_neg (by omega), if_pos (by omega)]
      have := ha (y - 7) (by omega) (by omega)
      exact ⟨show -1000000 ≤ ask (y - 7) ∧ ask (y - 7) ≤ 1000000 by omega, hv⟩
  · rw [h3, if_neg (by omega), if_pos h]; exact ⟨Or.inr rfl, hv⟩
  · rw [h3, if_neg (by omega), if_neg (by omega), if_neg (by omega), if_pos h]
    subst h4
    obtain ⟨v, r', e, hv1, hv2⟩ := vOk_cons hv
    subst e
    have hv' : v = 0 ∨ v = 1 := hv1
    exact ⟨show 1 - v = 0 ∨ 1 - v = 1 by omega, hv2⟩
  · rw [h4, if_neg (by omega), if_neg (by omega), if_neg (by omega), if_neg (by omega)]
    subst h3
    obtain ⟨v, r', e, hv1, hv2⟩ := vOk_cons hv
    obtain ⟨v2, r2, e2, hv3, hv4⟩ := vOk_cons hv2
    subst e2; subst e
    exact ⟨opf_ty.2 ⟨h, hv3, hv1⟩, hv4⟩
  · subst h3
    obtain ⟨v, r', e, hv1, hv2⟩ := vOk_cons hv
    obtain ⟨v2, r2, e2, hv3, hv4⟩ := vOk_cons hv2
    subst e2; subst e
    rw [if_neg (by omega), if_neg (by omega), if_neg (by omega), if_neg (by omega)]
    rcases h4 with ⟨h5, h6, h7⟩ | ⟨h5, h6, h7⟩
    · rw [h7]; exact ⟨opf_ty.1.1 ⟨⟨h5, h6⟩, hv3, hv1⟩, hv4⟩
    · rw [h7]; exact ⟨opf_ty.1.2 ⟨h5, h6⟩, hv4⟩
theorem evR_ok {ask c : Int → Int} (ha : ∀ j, 0 ≤ j → j < 5 → 0 ≤ ask j ∧ ask j ≤ 1000) : ∀ (k : Nat) (i : Int) (ts ts' : List Bool) (vs : List Int), vOk ts vs → TyR c k i ts ts' → vOk ts' (evR ask c k i vs)
  | 0, i, ts, ts', vs, hv, ht => by rw [← (show ts = ts' from ht)]; exact hv
  | k + 1, i, ts, ts', vs, hv, ht => by
    obtain ⟨t1, h1, h2⟩ := ht
    exact evR_ok ha k (i + 1) t1 ts' _ (evS_ok ha hv h1) h2
/-- a stack in a cell, the top first -/
def Sto (f : Int → Int) : List Int → Prop
  | [] => True
  | v :: r => f r.length = v ∧ Sto f r
theorem Sto_congr {f g : Int → Int} : ∀ (vs : List Int), (∀ j, 0 ≤ j → j < (vs.length : Int) → g j = f j) → Sto f vs → Sto g vs
  | [], _, _ => trivial
  | v :: r, h, hs => ⟨by rw [h _ (by omega) (by rw [List.length_cons]; omega)]; exact hs.1, Sto_congr r (fun j h1 h2 => h j h1 (by rw [List.length_cons]; omega)) hs.2⟩
theorem Sto_push {f : Int → Int} {vs : List Int} {v : Int} (hs : Sto f vs) : Sto (uPd f vs.length v) (v :: vs) := ⟨uPd_same, Sto_congr vs (fun j h1 h2 => uPd_ne (by omega)) hs⟩
