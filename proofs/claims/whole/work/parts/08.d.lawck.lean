/-! ===== the law, run by my machine: what is left is a pure statement ===== -/
def mEmp : mMem := ([], fun _ _ => 0, fun _ _ => none)
noncomputable def lawO (L : Nat) (xs : Int → Int) : mOrc := fun z as M => if z = 9995 then some ((L : Int), M) else if z = 9996 then (match as with
  | [Sum.inl i] => if 0 ≤ i ∧ i < L then some (xs i, M) else none
  | _ => none) else mCallN 1000 z as M
/-- THE PURE STATEMENT -/
def lawPure : Prop := ∀ (L : Nat) (xs : Int → Int), L ≤ 3072 → (∀ i, w32 (xs i) = xs i) → ∃ M : mMem, mEv (lawO L xs) kL_law 0 [some (mP 1003), none, none, none] [] mEmp (1, M) ∧ M.1.length ≤ 1000 ∧ mSl M ≤ 100000
def lawCk (a n : Nat) : Bool := (List.range n).all fun i => match kL_law (a + i) with
  | none => true
  | some e => mCkE 11 0 (some .boolean) code (a + i) e
theorem ckL_0 : lawCk 0 100 = true := by decide +kernel
theorem ckL_100 : lawCk 100 100 = true := by decide +kernel
theorem ckL_200 : lawCk 200 100 = true := by decide +kernel
theorem ckL_300 : lawCk 300 100 = true := by decide +kernel
theorem ckL_400 : lawCk 400 100 = true := by decide +kernel
theorem ckL_500 : lawCk 500 100 = true := by decide +kernel
theorem ckL_600 : lawCk 600 100 = true := by decide +kernel
theorem ckL_700 : lawCk 700 100 = true := by decide +kernel
theorem ckL_800 : lawCk 800 100 = true := by decide +kernel
theorem ckL_900 : lawCk 900 89 = true := by decide +kernel
theorem lawCk_at {a n pc : Nat} {e : mEnt} (h : lawCk a n = true) (h1 : a ≤ pc) (h2 : pc < a + n) (he : kL_law pc = some e) : mCkE 11 0 (some .boolean) code pc e = true := by
  have h5 := List.all_eq_true.mp h (pc - a) (List.mem_range.mpr (by omega))
  rw [show a + (pc - a) = pc by omega, he] at h5
  exact h5
theorem law_cod : mCodOk 11 0 (some .boolean) code kL_law := by
  have hb : mBnd kL_law 989 := mBnd_of _ _
  intro pc ent he
  have hlt := hb pc ent he
  by_cases q0 : pc < 100
  · exact lawCk_at ckL_0 (by omega) (by omega) he
  by_cases q100 : pc < 200
  · exact lawCk_at ckL_100 (by omega) (by omega) he
  by_cases q200 : pc < 300
  · exact lawCk_at ckL_200 (by omega) (by omega) he
  by_cases q300 : pc < 400
  · exact lawCk_at ckL_300 (by omega) (by omega) he
  by_cases q400 : pc < 500
  · exact lawCk_at ckL_400 (by omega) (by omega) he
  by_cases q500 : pc < 600
  · exact lawCk_at ckL_500 (by omega) (by omega) he
  by_cases q600 : pc < 700
  · exact lawCk_at ckL_600 (by omega) (by omega) he
  by_cases q700 : pc < 800
  · exact lawCk_at ckL_700 (by omega) (by omega) he
  by_cases q800 : pc < 900
  · exact lawCk_at ckL_800 (by omega) (by omega) he
  exact lawCk_at ckL_900 (by omega) (by omega) he
