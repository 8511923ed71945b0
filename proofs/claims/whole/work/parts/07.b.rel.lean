/-! ===== the relation of my machine's states to the JVM's ===== -/
def mCv (ad : Nat → Nat) : mV → Value
  | Sum.inl x => .int (Int32.ofInt x)
  | Sum.inr (Sum.inl x) => .long (Int64.ofInt x)
  | Sum.inr (Sum.inr r) => va_rf (r.map ad)
def mOkV : mV → Prop
  | Sum.inl x => w32 x = x
  | Sum.inr (Sum.inl x) => w64 x = x
  | Sum.inr (Sum.inr _) => True
def mOkS (st : List mV) : Prop := ∀ v ∈ st, mOkV v
def mOkL (ls : mLs) : Prop := ∀ (i : Nat) (v : mV), ls[i]? = some (some v) → mOkV v
/-- is a place of such a cell a long? -/
def mIsJ (k i : Nat) : Bool := Nat.beq k 1 || (Nat.ble 10 k && Nat.beq (mFk (k - 10) i) 1)
def mOkM (M : mMem) : Prop := ∀ (a : Nat) (i : Int), w64 (M.2.1 a i) = M.2.1 a i ∧ (mIsJ (mShape M a).1 i.toNat = false → w32 (M.2.1 a i) = M.2.1 a i)
def mFv (ad : Nat → Nat) (M : mMem) (a j kd : Nat) : Value := match kd with
  | 1 => .long (Int64.ofInt (M.2.1 a j))
  | 2 => va_rf ((M.2.2 a j).map ad)
  | _ => .int (Int32.ofInt (M.2.1 a j))
def mArrI (M : mMem) (a : Nat) : Nat → Int32 := fun j => Int32.ofInt (M.2.1 a j)
def mArrJ (M : mMem) (a : Nat) : Nat → Int64 := fun j => Int64.ofInt (M.2.1 a j)
def mArrR (ad : Nat → Nat) (M : mMem) (a : Nat) : Nat → Option Nat := fun j => (M.2.2 a j).map ad
def mFs (ad : Nat → Nat) (M : mMem) (a ci n : Nat) : List Value := (List.range n).map (fun j => mFv ad M a j (mFk ci j))
def mEntry (ad : Nat → Nat) (cA : Nat → ClassId) (M : mMem) (a : Nat) : va_E := match (mShape M a).1 with
  | 0 => .inl (cA 0, (mShape M a).2, .inl (mArrI M a))
  | 1 => .inl (cA 1, (mShape M a).2, .inr (.inl (mArrJ M a)))
  | 2 => .inl (cA 2, (mShape M a).2, .inl (mArrI M a))
  | 3 => .inl (cA 3, (mShape M a).2, .inl (mArrI M a))
  | 4 => .inl (cA 4, (mShape M a).2, .inr (.inr (.inr (.inr (mArrR ad M a)))))
  | k => .inr (k - 10, mFs ad M a (k - 10) (mShape M a).2)
def mWl (ad : Nat → Nat) (cA : Nat → ClassId) (M : mMem) : va_W := (List.range M.1.length).map fun a => (ad a, mEntry ad cA M a)
def mTys (cA : Nat → ClassId) : List (ClassId × FieldType) := [(cA 0, .int), (cA 1, .long), (cA 2, .char), (cA 3, .boolean), (cA 4, .array .int)]
def mShOk (M : mMem) : Prop := ∀ a, a < M.1.length → (mShape M a).1 < 5 ∨ (10 ≤ (mShape M a).1 ∧ (mShape M a).1 < 21 ∧ (mShape M a).2 = mNf ((mShape M a).1 - 10))
theorem mWl_at {ad : Nat → Nat} {cA : Nat → ClassId} {M : mMem} {a : Nat} (h : a < M.1.length) : (mWl ad cA M)[a]? = some (ad a, mEntry ad cA M a) := by simp [mWl, h]
theorem mShape_lt {M : mMem} {a : Nat} (h : (mShape M a).1 ≠ 99) : a < M.1.length := by
  apply Nat.lt_of_not_le
  intro hl
  exact h (by unfold mShape; rw [List.getElem?_eq_none hl]; rfl)
theorem mArr_lt {M : mMem} {a k : Nat} (hk : k < 5) (h : mArr M a k = true) : a < M.1.length ∧ (mShape M a).1 = k := by
  have e : (mShape M a).1 = k := Nat.eq_of_beq_eq_true h
  exact ⟨mShape_lt (by omega), e⟩
theorem mObj_lt {M : mMem} {a ci : Nat} (hk : ci < 11) (h : mObj M a ci = true) : a < M.1.length ∧ (mShape M a).1 = 10 + ci := by
  have e : (mShape M a).1 = 10 + ci := Nat.eq_of_beq_eq_true h
  exact ⟨mShape_lt (by omega), e⟩
theorem mE_0 {ad : Nat → Nat} {cA : Nat → ClassId} {M : mMem} {a : Nat} (h : mArr M a 0 = true) : (mWl ad cA M)[a]? = some (ad a, .inl (cA 0, (mShape M a).2, .inl (mArrI M a))) := by
  obtain ⟨h1, h2⟩ := mArr_lt (by decide) h
  rw [mWl_at h1]; simp only [mEntry, h2]
theorem mE_1 {ad : Nat → Nat} {cA : Nat → ClassId} {M : mMem} {a : Nat} (h : mArr M a 1 = true) : (mWl ad cA M)[a]? = some (ad a, .inl (cA 1, (mShape M a).2, .inr (.inl (mArrJ M a)))) := by
  obtain ⟨h1, h2⟩ := mArr_lt (by decide) h
  rw [mWl_at h1]; simp only [mEntry, h2]
theorem mE_2 {ad : Nat → Nat} {cA : Nat → ClassId} {M : mMem} {a : Nat} (h : mArr M a 2 = true) : (mWl ad cA M)[a]? = some (ad a, .inl (cA 2, (mShape M a).2, .inl (mArrI M a))) := by
  obtain ⟨h1, h2⟩ := mArr_lt (by decide) h
  rw [mWl_at h1]; simp only [mEntry, h2]
theorem mE_3 {ad : Nat → Nat} {cA : Nat → ClassId} {M : mMem} {a : Nat} (h : mArr M a 3 = true) : (mWl ad cA M)[a]? = some (ad a, .inl (cA 3, (mShape M a).2, .inl (mArrI M a))) := by
  obtain ⟨h1, h2⟩ := mArr_lt (by decide) h
  rw [mWl_at h1]; simp only [mEntry, h2]
theorem mE_4 {ad : Nat → Nat} {cA : Nat → ClassId} {M : mMem} {a : Nat} (h : mArr M a 4 = true) : (mWl ad cA M)[a]? = some (ad a, .inl (cA 4, (mShape M a).2, .inr (.inr (.inr (.inr (mArrR ad M a)))))) := by
  obtain ⟨h1, h2⟩ := mArr_lt (by decide) h
  rw [mWl_at h1]; simp only [mEntry, h2]
theorem mEntry_obj {ad : Nat → Nat} {cA : Nat → ClassId} {M : mMem} {a ci : Nat} (h : (mShape M a).1 = 10 + ci) : mEntry ad cA M a = .inr (ci, mFs ad M a ci (mShape M a).2) := by
  unfold mEntry
  rw [h]
  split <;> first | omega | (rename_i e1 e2 e3 e4 e5; rw [Nat.add_sub_cancel_left])
theorem mE_obj {ad : Nat → Nat} {cA : Nat → ClassId} {M : mMem} {a ci : Nat} (hk : ci < 11) (hS : mShOk M) (h : mObj M a ci = true) : (mWl ad cA M)[a]? = some (ad a, .inr (ci, mFs ad M a ci (mNf ci))) := by
  obtain ⟨h1, h2⟩ := mObj_lt hk h
  rw [mWl_at h1, mEntry_obj h2]
  rcases hS a h1 with q | ⟨-, -, q⟩
  · omega
  · rw [q, h2, Nat.add_sub_cancel_left]
/-! locals -/
def mAl (ad : Nat → Nat) (ls : mLs) : List (Nat × Value) := (List.range ls.length).filterMap (fun i => match ls[i]? with
  | some (some v) => some (i, mCv ad v)
  | _ => none)
theorem mAl_mem {ad : Nat → Nat} {ls : mLs} {i : Nat} {x : Value} : (i, x) ∈ mAl ad ls ↔ ∃ v, ls[i]? = some (some v) ∧ x = mCv ad v := by
  unfold mAl
  rw [List.mem_filterMap]
  constructor
  · rintro ⟨j, hj, h⟩
    split at h
    · rename_i v hv
      cases h
      exact ⟨v, hv, rfl⟩
    · cases h
  · rintro ⟨v, hv, rfl⟩
    refine ⟨i, List.mem_range.mpr (List.getElem?_eq_some_iff.mp hv).1, ?_⟩
    rw [hv]
def mLR (ad : Nat → Nat) (lsA : Array Slot) (ls : mLs) (n : Nat) : Prop := ls.length = n ∧ lv_has lsA n (mAl ad ls)
theorem mLR_at {ad : Nat → Nat} {lsA : Array Slot} {ls : mLs} {n i : Nat} {v : mV} (h : mLR ad lsA ls n) (hi : ls[i]? = some (some v)) : lsA[i]? = some (.val (mCv ad v)) := h.2.2.2 (i, mCv ad v) (mAl_mem.mpr ⟨v, hi, rfl⟩)
theorem lv_has_sub {lsA : Array Slot} {n : Nat} {l l' : List (Nat × Value)} (h : lv_has lsA n l) (hs : ∀ q ∈ l', q ∈ l) : lv_has lsA n l' := ⟨h.1, h.2.1, fun q hq => h.2.2 q (hs q hq)⟩
theorem mCat {ad : Nat → Nat} {v : mV} : (mCv ad v).category = 2 ↔ mIs v = 1 := by
  match v with
  | Sum.inl x => simp [mCv, mIs, Value.category]
  | Sum.inr (Sum.inl x) => simp [mCv, mIs, Value.category]
  | Sum.inr (Sum.inr (some a)) => simp [mCv, mIs, va_rf, Value.category]
  | Sum.inr (Sum.inr none) => simp [mCv, mIs, va_rf, Value.category]
theorem mCat1 {ad : Nat → Nat} {v : mV} (h : mIs v ≠ 1) : (mCv ad v).category = 1 := by
  match v with
  | Sum.inl x => rfl
  | Sum.inr (Sum.inl x) => exact absurd rfl h
  | Sum.inr (Sum.inr (some a)) => rfl
  | Sum.inr (Sum.inr none) => rfl
theorem mLong_iff {ls : mLs} {i : Nat} : mLong ls i = true ↔ ∃ x, ls[i]? = some (some (mJ x)) := by
  unfold mLong
  split
  · rename_i x h; exact ⟨fun _ => ⟨x, h⟩, fun _ => rfl⟩
  · rename_i h
    constructor
    · intro q; cases q
    · rintro ⟨x, hx⟩; exact absurd hx (h x)
theorem mLR_set {ad : Nat → Nat} {lsA : Array Slot} {ls : mLs} {n i : Nat} {v : mV} (h : ls.length = n) (hb : mBefore ls i = false) (hl : lv_has lsA n ((i, mCv ad v) :: (mAl ad ls).filter (fun q => !(q.1 == i) && !(q.1 + 1 == i && q.2.category == 2)))) : mLR ad lsA (ls.set i (some v)) n := by
  refine ⟨by rw [List.length_set]; exact h, lv_has_sub hl ?_⟩
  rintro ⟨j, x⟩ hq
  obtain ⟨w, hw, rfl⟩ := mAl_mem.mp hq
  by_cases hij : j = i
  · subst hij
    have hlt : j < ls.length := by
      have := (List.getElem?_eq_some_iff.mp hw).1
      rw [List.length_set] at this; exact this
    rw [List.getElem?_set_self hlt] at hw
    cases hw
    exact List.mem_cons_self
  · rw [List.getElem?_set_ne (Ne.symm hij)] at hw
    refine List.mem_cons_of_mem _ (List.mem_filter.mpr ⟨mAl_mem.mpr ⟨w, hw, rfl⟩, ?_⟩)
    have h2 : ¬ (j + 1 = i ∧ (mCv ad w).category = 2) := by
      rintro ⟨e, hc⟩
      subst e
      have : mLong ls j = true := by
        rw [mLong_iff]
        have := mCat.mp hc
        match w, this with
        | Sum.inr (Sum.inl x), _ => exact ⟨x, hw⟩
      rw [show mBefore ls (j + 1) = mLong ls j from rfl, this] at hb
      cases hb
    simp only [Bool.and_eq_true, Bool.not_eq_true', beq_eq_false_iff_ne, Bool.and_eq_false_iff]
    refine ⟨hij, ?_⟩
    by_cases e : j + 1 = i
    · exact Or.inr fun hc => h2 ⟨e, hc⟩
    · exact Or.inl e
theorem mLR_setJ {ad : Nat → Nat} {lsA : Array Slot} {ls : mLs} {n i : Nat} {v : mV} (h : ls.length = n) (hb : mBefore ls i = false) (hl : lv_has lsA n ((i, mCv ad v) :: (mAl ad ls).filter (fun q => !(q.1 == i) && (!(q.1 == i + 1) && !(q.1 + 1 == i && q.2.category == 2))))) : mLR ad lsA ((ls.set i (some v)).set (i + 1) none) n := by
  refine ⟨by rw [List.length_set, List.length_set]; exact h, lv_has_sub hl ?_⟩
  rintro ⟨j, x⟩ hq
  obtain ⟨w, hw, rfl⟩ := mAl_mem.mp hq
  have hj1 : j ≠ i + 1 := by
    rintro rfl
    have hlt := (List.getElem?_eq_some_iff.mp hw).1
    rw [List.length_set] at hlt
    rw [List.getElem?_set_self hlt] at hw
    cases hw
  rw [List.getElem?_set_ne (Ne.symm hj1)] at hw
  by_cases hij : j = i
  · subst hij
    have hlt : j < ls.length := by
      have := (List.getElem?_eq_some_iff.mp hw).1
      rw [List.length_set] at this; exact this
    rw [List.getElem?_set_self hlt] at hw
    cases hw
    exact List.mem_cons_self
  · rw [List.getElem?_set_ne (Ne.symm hij)] at hw
    refine List.mem_cons_of_mem _ (List.mem_filter.mpr ⟨mAl_mem.mpr ⟨w, hw, rfl⟩, ?_⟩)
    have h2 : ¬ (j + 1 = i ∧ (mCv ad w).category = 2) := by
      rintro ⟨e, hc⟩
      subst e
      have : mLong ls j = true := by
        rw [mLong_iff]
        have := mCat.mp hc
        match w, this with
        | Sum.inr (Sum.inl x), _ => exact ⟨x, hw⟩
      rw [show mBefore ls (j + 1) = mLong ls j from rfl, this] at hb
      cases hb
    simp only [Bool.and_eq_true, Bool.not_eq_true', beq_eq_false_iff_ne, Bool.and_eq_false_iff]
    refine ⟨hij, hj1, ?_⟩
    by_cases e : j + 1 = i
    · exact Or.inr fun hc => h2 ⟨e, hc⟩
    · exact Or.inl e
theorem mOkL_set {ls : mLs} {i : Nat} {v : mV} (h : mOkL ls) (hv : mOkV v) : mOkL (ls.set i (some v)) := by
  intro j w hw
  by_cases e : j = i
  · subst e
    have hlt := (List.getElem?_eq_some_iff.mp hw).1
    rw [List.length_set] at hlt
    rw [List.getElem?_set_self hlt] at hw
    cases hw; exact hv
  · rw [List.getElem?_set_ne (Ne.symm e)] at hw
    exact h j w hw
theorem mOkL_none {ls : mLs} {i : Nat} (h : mOkL ls) : mOkL (ls.set i none) := by
  intro j w hw
  by_cases e : j = i
  · subst e
    have hlt := (List.getElem?_eq_some_iff.mp hw).1
    rw [List.length_set] at hlt
    rw [List.getElem?_set_self hlt] at hw
    cases hw
  · rw [List.getElem?_set_ne (Ne.symm e)] at hw
    exact h j w hw
theorem mOkS_c {v : mV} {st : List mV} : mOkS (v :: st) ↔ mOkV v ∧ mOkS st := by
  unfold mOkS
  constructor
  · intro h; exact ⟨h v List.mem_cons_self, fun w hw => h w (List.mem_cons_of_mem _ hw)⟩
  · rintro ⟨h1, h2⟩ w hw
    rcases List.mem_cons.mp hw with e | e
    · subst e; exact h1
    · exact h2 w e
