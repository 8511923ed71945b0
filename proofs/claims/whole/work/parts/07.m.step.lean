/-! ===== one step of my machine is sound ===== -/
theorem inv_I1 {st : List mV} {g : Int → List mV → mRes} {x : Int × mMem} (h : mI1 st g = some x) : ∃ a r, st = mI a :: r ∧ g a r = some x := by
  match st, h with
  | Sum.inl a :: r, h => exact ⟨a, r, rfl, h⟩
theorem inv_I2 {st : List mV} {g : Int → Int → List mV → mRes} {x : Int × mMem} (h : mI2 st g = some x) : ∃ a b r, st = mI b :: mI a :: r ∧ g a b r = some x := by
  match st, h with
  | Sum.inl b :: Sum.inl a :: r, h => exact ⟨a, b, r, rfl, h⟩
theorem inv_J1 {st : List mV} {g : Int → List mV → mRes} {x : Int × mMem} (h : mJ1 st g = some x) : ∃ a r, st = mJ a :: r ∧ g a r = some x := by
  match st, h with
  | Sum.inr (Sum.inl a) :: r, h => exact ⟨a, r, rfl, h⟩
theorem inv_J2 {st : List mV} {g : Int → Int → List mV → mRes} {x : Int × mMem} (h : mJ2 st g = some x) : ∃ a b r, st = mJ b :: mJ a :: r ∧ g a b r = some x := by
  match st, h with
  | Sum.inr (Sum.inl b) :: Sum.inr (Sum.inl a) :: r, h => exact ⟨a, b, r, rfl, h⟩
theorem inv_R1 {st : List mV} {g : Nat → List mV → mRes} {x : Int × mMem} (h : mR1 st g = some x) : ∃ a r, st = mP a :: r ∧ g a r = some x := by
  match st, h with
  | Sum.inr (Sum.inr (some a)) :: r, h => exact ⟨a, r, rfl, h⟩
theorem inv_IR {st : List mV} {g : Int → Nat → List mV → mRes} {x : Int × mMem} (h : mIR st g = some x) : ∃ i a r, st = mI i :: mP a :: r ∧ g i a r = some x := by
  match st, h with
  | Sum.inl i :: Sum.inr (Sum.inr (some a)) :: r, h => exact ⟨i, a, r, rfl, h⟩
theorem inv_RR {st : List mV} {g : mV → Nat → List mV → mRes} {x : Int × mMem} (h : mRR st g = some x) : ∃ v a r, st = v :: mP a :: r ∧ g v a r = some x := by
  match st, h with
  | v :: Sum.inr (Sum.inr (some a)) :: r, h => exact ⟨v, a, r, rfl, h⟩
theorem inv_IIR {st : List mV} {g : Int → Int → Nat → List mV → mRes} {x : Int × mMem} (h : mIIR st g = some x) : ∃ y i a r, st = mI y :: mI i :: mP a :: r ∧ g y i a r = some x := by
  match st, h with
  | Sum.inl y :: Sum.inl i :: Sum.inr (Sum.inr (some a)) :: r, h => exact ⟨y, i, a, r, rfl, h⟩
theorem inv_JIR {st : List mV} {g : Int → Int → Nat → List mV → mRes} {x : Int × mMem} (h : mJIR st g = some x) : ∃ y i a r, st = mJ y :: mI i :: mP a :: r ∧ g y i a r = some x := by
  match st, h with
  | Sum.inr (Sum.inl y) :: Sum.inl i :: Sum.inr (Sum.inr (some a)) :: r, h => exact ⟨y, i, a, r, rfl, h⟩
theorem inv_Ld {ls : mLs} {i : Nat} {g : mV → mRes} {x : Int × mMem} (h : mLd ls i g = some x) : ∃ v, ls[i]? = some (some v) ∧ g v = some x := by
  unfold mLd at h
  split at h
  · rename_i v hv; exact ⟨v, hv, h⟩
  · cases h
theorem inv_cond {c : Bool} {a b : mRes} {x : Int × mMem} (h : (bif c then a else b) = some x) : (c = true ∧ a = some x) ∨ (c = false ∧ b = some x) := by
  cases c
  · exact Or.inr ⟨rfl, h⟩
  · exact Or.inl ⟨rfl, h⟩
theorem inv_condN {c : Bool} {a : mRes} {x : Int × mMem} (h : (bif c then a else none) = some x) : c = true ∧ a = some x := by
  cases c
  · cases h
  · exact ⟨rfl, h⟩
theorem inv_condF {c : Bool} {a : mRes} {x : Int × mMem} (h : (bif c then none else a) = some x) : c = false ∧ a = some x := by
  cases c
  · exact ⟨rfl, h⟩
  · cases h
theorem inv_iteN {c : Prop} [Decidable c] {a : mRes} {x : Int × mMem} (h : (if c then a else none) = some x) : c ∧ a = some x := by
  by_cases q : c
  · rw [if_pos q] at h; exact ⟨q, h⟩
  · rw [if_neg q] at h; cases h
theorem inv_iteF {c : Prop} [Decidable c] {a : mRes} {x : Int × mMem} (h : (if c then none else a) = some x) : ¬ c ∧ a = some x := by
  by_cases q : c
  · rw [if_pos q] at h; cases h
  · rw [if_neg q] at h; exact ⟨q, h⟩
theorem inv_Load {t i : Nat} {ls : mLs} {st : List mV} {g : List mV → mRes} {x : Int × mMem} (h : mLoad t ls st i g = some x) : ∃ v, ls[i]? = some (some v) ∧ mIs v = t ∧ g (v :: st) = some x := by
  obtain ⟨v, hv, h⟩ := inv_Ld h
  obtain ⟨h1, h2⟩ := inv_condN h
  exact ⟨v, hv, Nat.eq_of_beq_eq_true h1, h2⟩
theorem inv_Store {t i : Nat} {ls : mLs} {st : List mV} {g : mLs → List mV → mRes} {x : Int × mMem} (h : mStore t ls st i g = some x) : ∃ v r, st = v :: r ∧ mIs v = t ∧ i < ls.length ∧ mBefore ls i = false ∧ g (ls.set i (some v)) r = some x := by
  match st, h with
  | v :: r, h =>
    obtain ⟨h1, h2⟩ := inv_condN h
    simp only [Bool.and_eq_true, Bool.not_eq_true'] at h1
    exact ⟨v, r, rfl, Nat.eq_of_beq_eq_true h1.1.1, Nat.le_of_ble_eq_true h1.1.2, h1.2, h2⟩
theorem inv_StoreJ {i : Nat} {ls : mLs} {st : List mV} {g : mLs → List mV → mRes} {x : Int × mMem} (h : mStoreJ ls st i g = some x) : ∃ y r, st = mJ y :: r ∧ i + 1 < ls.length ∧ mBefore ls i = false ∧ g ((ls.set i (some (mJ y))).set (i + 1) none) r = some x := by
  match st, h with
  | v :: r, h =>
    obtain ⟨h1, h2⟩ := inv_condN h
    simp only [Bool.and_eq_true, Bool.not_eq_true'] at h1
    have h3 := Nat.eq_of_beq_eq_true h1.1.1
    match v, h3, h2 with
    | Sum.inr (Sum.inl y), _, h2 => exact ⟨y, r, rfl, Nat.le_of_ble_eq_true h1.1.2, h1.2, h2⟩
theorem inv_Take {g : List mV → List mV → mRes} {x : Int × mMem} : ∀ {n : Nat} {st acc : List mV}, mTake n st acc g = some x → ∃ as r, st = as.reverse ++ r ∧ as.length = n ∧ g (as ++ acc) r = some x
  | 0, st, acc, h => ⟨[], st, rfl, rfl, by simpa [mTake] using h⟩
  | n + 1, v :: r, acc, h => by
    obtain ⟨as, r', h1, h2, h3⟩ := inv_Take (n := n) (st := r) (acc := v :: acc) h
    refine ⟨as ++ [v], r', ?_, by simp [h2], by simpa using h3⟩
    rw [h1]; simp
theorem inv_Opt {x : Option Nat} {g : Nat → mRes} {y : Int × mMem} (h : mOpt x g = some y) : ∃ a, x = some a ∧ g a = some y := by
  match x, h with
  | some a, h => exact ⟨a, rfl, h⟩
theorem inv_Call {z : Int} {M : mMem} {x : mRes} {g : List mV → mMem → mRes} {y : Int × mMem} (h : mCall z M x g = some y) : ∃ r, x = some r ∧ (((z = 0 ∨ z = 1 ∨ z = 2) ∧ g (mRvs z r.1) (M.1, r.2.2.1, M.2.2) = some y) ∨ ((z = 10 ∨ z = 11 ∨ z = 12) ∧ g (mRvs z r.1) r.2 = some y)) := by
  match x, h with
  | some r, h =>
    refine ⟨r, rfl, ?_⟩
    unfold mCall mOptR at h
    dsimp only at h
    split at h
    · exact Or.inl ⟨by simp, h⟩
    · exact Or.inl ⟨by simp, h⟩
    · exact Or.inl ⟨by simp, h⟩
    · exact Or.inr ⟨by simp, h⟩
    · exact Or.inr ⟨by simp, h⟩
    · exact Or.inr ⟨by simp, h⟩
    · cases h
theorem inv_Copy {st : List mV} {M : mMem} {g : List mV → mMem → mRes} {x : Int × mMem} (h : mCopy st M g = some x) : ∃ n dp d sp s r, st = mI n :: mI dp :: mP d :: mI sp :: mP s :: r ∧ mArr M s 0 = true ∧ mArr M d 0 = true ∧ (0 ≤ n ∧ 0 ≤ sp ∧ 0 ≤ dp ∧ sp + n ≤ (mShape M s).2 ∧ dp + n ≤ (mShape M d).2) ∧ g r (M.1, mCp M.2.1 s d sp dp n, M.2.2) = some x := by
  match st, h with
  | Sum.inl n :: Sum.inl dp :: Sum.inr (Sum.inr (some d)) :: Sum.inl sp :: Sum.inr (Sum.inr (some s)) :: r, h =>
    obtain ⟨h1, h2⟩ := inv_condN h
    rw [Bool.and_eq_true] at h1
    obtain ⟨h3, h4⟩ := inv_iteN h2
    exact ⟨n, dp, d, sp, s, r, rfl, h1.1, h1.2, h3, h4⟩
/-- where a method may end -/
def mEndOk (bs : ByteArray) (ret : Option FieldType) (v : Int) (st : List mV) (pc : Nat) : Prop :=
  (ret = none ∧ st = [] ∧ decode bs pc = .ok (.return_, 1)) ∨ (ret = some .int ∧ st = [mI v] ∧ decode bs pc = .ok (.ireturn, 1)) ∨ (ret = some .boolean ∧ st = [mI v] ∧ (v = 0 ∨ v = 1) ∧ decode bs pc = .ok (.ireturn, 1)) ∨ (ret = some .long ∧ st = [mJ v] ∧ decode bs pc = .ok (.lreturn, 1))
theorem mem_le_sum {x : Nat} : ∀ {l : List Nat}, x ∈ l → x ≤ l.sum
  | y :: r, h => by
    rw [List.sum_cons]
    rcases List.mem_cons.mp h with rfl | h
    · omega
    · have := mem_le_sum h; omega
theorem mShOk_len {M : mMem} {a : Nat} (hs : mSl M < 2147483648) : (mShape M a).2 < 2147483648 := by
  unfold mShape
  cases h : M.1[a]? with
  | none => show (0 : Nat) < _; omega
  | some q =>
    have h1 : q ∈ M.1 := List.mem_of_getElem? h
    have h2 : q.2 ≤ mSl M := by
      unfold mSl
      have : q.2 ∈ M.1.map (fun q => q.2) := List.mem_map.mpr ⟨q, h1, rfl⟩
      exact mem_le_sum this
    show q.2 < _
    omega
