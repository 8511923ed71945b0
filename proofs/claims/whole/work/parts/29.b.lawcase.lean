/-! ===== the law: one step, by how many numbers a call takes ===== -/
def EL (T : Nat → mRes) : Prop := ∃ n μ' b', T n = some (1, SH, μ', RHO b')
theorem el_call {Φ : mOrc} {z : Nat} {as : List mV} {M : mMem} {v : Int} {M' : mMem} {A : Int × mMem → Nat → mRes} (h : Φ z as M = some (v, M')) (h2 : EL (A (v, M'))) : EL (fun n => mOptR (Φ z as M) (fun x => A x n)) := by
  obtain ⟨n, μ', b', e⟩ := h2
  exact ⟨n, μ', b', by show mOptR (Φ z as M) (fun x => A x n) = _; rw [h, mOptR_some]; exact e⟩
theorem el_pos {c : Prop} [Decidable c] {A B : Nat → mRes} (e : c) (h1 : EL A) : EL (fun n => mBr c (A n) (B n)) := by
  obtain ⟨n, μ', b', q⟩ := h1
  exact ⟨n, μ', b', by show mBr c (A n) (B n) = _; rw [mBr_pos e]; exact q⟩
theorem el_neg {c : Prop} [Decidable c] {A B : Nat → mRes} (e : ¬ c) (h1 : EL B) : EL (fun n => mBr c (A n) (B n)) := by
  obtain ⟨n, μ', b', q⟩ := h1
  exact ⟨n, μ', b', by show mBr c (A n) (B n) = _; rw [mBr_neg e]; exact q⟩
theorem el_if {c : Prop} [Decidable c] {A B : Nat → mRes} (e : c) (h1 : EL A) : EL (fun n => if c then A n else B n) := by
  obtain ⟨n, μ', b', q⟩ := h1
  exact ⟨n, μ', b', by show (if c then A n else B n) = _; rw [if_pos e]; exact q⟩
theorem el_if0 {c : Prop} [Decidable c] {A B : Nat → mRes} (e : ¬ c) (h1 : EL B) : EL (fun n => if c then A n else B n) := by
  obtain ⟨n, μ', b', q⟩ := h1
  exact ⟨n, μ', b', by show (if c then A n else B n) = _; rw [if_neg e]; exact q⟩
theorem el_row {Φ : mOrc} {k : mCod} {pc : Nat} {ls : mLs} {st : List mV} {M : mMem} {T : Nat → mRes} (row : ∀ n, mRun Φ k (n + 1) pc ls st M = T n) (h : EL T) : EL (fun n => mRun Φ k n pc ls st M) := by
  obtain ⟨n, μ', b', q⟩ := h
  exact ⟨n + 1, μ', b', by show mRun Φ k (n + 1) pc ls st M = _; rw [row]; exact q⟩
theorem lawO_call {L : Nat} {xs : Int → Int} {z : Nat} (h : z < 9995) (as : List mV) (M : mMem) : lawO L xs z as M = mCallN 1000 z as M := by
  unfold lawO
  rw [if_neg (by omega), if_neg (by omega)]
theorem lawO_at {L : Nat} {xs : Int → Int} (hL : L ≤ 3072) {i k : Int} (i0 : 0 ≤ i) (k0 : 0 ≤ k) (h : i + k < (L : Int)) (M : mMem) : lawO L xs 9996 [mI (w32 (i + k))] M = some (xs (i + k), M) := by
  rw [w32_id (by omega) (by omega)]
  unfold lawO
  rw [if_neg (by decide), if_pos rfl]
  show (if 0 ≤ i + k ∧ i + k < (L : Int) then some (xs (i + k), M) else none) = _
  rw [if_pos (by omega)]
theorem lawO_at0 {L : Nat} {xs : Int → Int} {i : Int} (i0 : 0 ≤ i) (h : i < (L : Int)) (M : mMem) : lawO L xs 9996 [mI i] M = some (xs i, M) := by
  unfold lawO
  rw [if_neg (by decide), if_pos rfl]
  show (if 0 ≤ i ∧ i < (L : Int) then some (xs i, M) else none) = _
  rw [if_pos ⟨i0, h⟩]
theorem lawO_len {L : Nat} {xs : Int → Int} (M : mMem) : lawO L xs 9995 [] M = some ((L : Int), M) := if_pos rfl
