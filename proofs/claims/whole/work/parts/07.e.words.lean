/-! ===== what the tables say, row by row ===== -/
theorem mGW_of {w : Cond} (h : mW w) : w ∈ mGW := List.mem_filter.mpr h
theorem mGW_at {w : Cond} (i : Nat) (h : (decide (lw_tbl[i]? = some w) && goodWord w) = true) : w ∈ mGW := by
  rw [Bool.and_eq_true, decide_eq_true_eq] at h
  exact mGW_of ⟨List.mem_of_getElem? h.1, h.2⟩
def xFl (q : Nat × Nat × Nat × Nat × Nat) : Cond := .fieldLink (mCN q.1) q.2.1 (mCN q.2.2.1) (mTf q.2.2.1 q.2.2.2.1).2.1 (mTf q.2.2.1 q.2.2.2.1).2.2.1
def xFn (q : Nat × Nat × Nat × Nat × Nat) : Cond := .fieldLinkNest (mCN q.1) q.2.1 (mCN q.2.2.1) (mTf q.2.2.1 q.2.2.2.1).2.1 (mTf q.2.2.1 q.2.2.2.1).2.2.1 "TenthMan"
theorem fT_all : fT.all (fun q => decide (lw_tbl[q.2.2.2.2]? = some (xFl q)) && goodWord (xFl q)) = true := by decide +kernel
theorem fN_all : fN.all (fun q => decide (lw_tbl[q.2.2.2.2]? = some (xFn q))) = true := by decide +kernel
theorem cT_all : cT.all (fun q => decide (lw_tbl[q.2.2.2]? = some (.constant (mCN q.1) q.2.1 (Int32.ofInt q.2.2.1))) && goodWord (.constant (mCN q.1) q.2.1 (Int32.ofInt q.2.2.1))) = true := by decide +kernel
theorem lT_all : lT.all (fun q => decide (lw_tbl[q.2.2.2]? = some (.constantLong (mCN q.1) q.2.1 (Int64.ofInt q.2.2.1))) && goodWord (.constantLong (mCN q.1) q.2.1 (Int64.ofInt q.2.2.1))) = true := by decide +kernel
theorem oT_all : oT.all (fun q => decide (lw_tbl[q.2.2]? = some (.methodLink (mCN q.1) q.2.1 objectInit)) && goodWord (.methodLink (mCN q.1) q.2.1 objectInit)) = true := by decide +kernel
theorem aT_all : aT.all (fun q => decide (lw_tbl[q.2.2]? = some (.methodLink (mCN q.1) q.2.1 arraycopyName)) && goodWord (.methodLink (mCN q.1) q.2.1 arraycopyName)) = true := by decide +kernel
theorem kT_all : kT.all (fun q => decide (lw_tbl[q.2.2.2]? = some (.classLink (mCN q.1) q.2.1 (mCN q.2.2.1))) && goodWord (.classLink (mCN q.1) q.2.1 (mCN q.2.2.1))) = true := by decide +kernel
theorem gT_all : gT.all (fun q => decide (lw_tbl[q.2.2]? = some (.classLink (mCN q.1) q.2.1 "[[I")) && goodWord (.classLink (mCN q.1) q.2.1 "[[I")) = true := by decide +kernel
theorem iT_all : (List.range 11).all (fun i => decide (lw_tbl[(iT.getD i (0, 0)).1]? = some (.instantiable (mCN i) (mNf i))) && goodWord (.instantiable (mCN i) (mNf i)) && (decide (lw_tbl[(iT.getD i (0, 0)).2]? = some (.initialized (mCN i))) && goodWord (.initialized (mCN i)))) = true := by decide +kernel
theorem cl_all : (List.range 11).all (fun i => (u_ws (mCN i) (mTf i) (mNf i)).all (fun w => decide (w ∈ lw_tbl) && goodWord w)) = true := by decide +kernel
theorem own_all : (List.range 11).all (fun i => (List.range (mNf i)).all (fun k => decide ((mTf i k).1 = mCN i) && decide (parseFieldDescriptor (mTf i k).2.2.1 = some (mTy i k)) && (match mFk i k with
  | 0 => decide (mTy i k = .int)
  | 1 => decide (mTy i k = .long)
  | 3 => decide (mTy i k = .boolean)
  | _ => decide (mFk i k = 2) && (mTy i k).isReference))) = true := by decide +kernel
theorem nm_all : ∀ i, i < 11 → ∀ a, a < mNf i → ∀ b, b < mNf i → a ≠ b → (mTf i a).2.1 ≠ (mTf i b).2.1
  | 0, _ => nmX0
  | 1, _ => nmX1
  | 2, _ => nmX2
  | 3, _ => nmX3
  | 4, _ => nmX4
  | 5, _ => nmX5
  | 6, _ => nmX6
  | 7, _ => nmX7
  | 8, _ => nmX8
  | 9, _ => nmX9
  | 10, _ => nmX10
  | n + 11, h => absurd h (by omega)
theorem vw_at : ∀ i, i < 11 → vwCl[i]? = some (mCN i, mTf i, mNf i)
  | 0, _ => rfl
  | 1, _ => rfl
  | 2, _ => rfl
  | 3, _ => rfl
  | 4, _ => rfl
  | 5, _ => rfl
  | 6, _ => rfl
  | 7, _ => rfl
  | 8, _ => rfl
  | 9, _ => rfl
  | 10, _ => rfl
  | n + 11, h => absurd h (by omega)
theorem cl_in {i : Nat} (hi : i < 11) : ∀ w ∈ u_ws (mCN i) (mTf i) (mNf i), w ∈ mGW := by
  intro w hw
  have h := List.all_eq_true.mp (List.all_eq_true.mp cl_all i (List.mem_range.mpr hi)) w hw
  rw [Bool.and_eq_true, decide_eq_true_eq] at h
  exact mGW_of h
theorem own_at {i k : Nat} (hi : i < 11) (hk : k < mNf i) : (mTf i k).1 = mCN i ∧ parseFieldDescriptor (mTf i k).2.2.1 = some (mTy i k) ∧ (match mFk i k with
  | 0 => decide (mTy i k = .int)
  | 1 => decide (mTy i k = .long)
  | 3 => decide (mTy i k = .boolean)
  | _ => decide (mFk i k = 2) && (mTy i k).isReference) = true := by
  have h := List.all_eq_true.mp (List.all_eq_true.mp own_all i (List.mem_range.mpr hi)) k (List.mem_range.mpr hk)
  rw [Bool.and_eq_true, Bool.and_eq_true, decide_eq_true_eq, decide_eq_true_eq] at h
  exact ⟨h.1.1, h.1.2, h.2⟩
theorem mHas5_at {l : List (Nat × Nat × Nat × Nat × Nat)} {a b c d : Nat} (h : mHas5 l a b c d = true) : ∃ q ∈ l, q.1 = a ∧ q.2.1 = b ∧ q.2.2.1 = c ∧ q.2.2.2.1 = d := by
  unfold mHas5 at h
  obtain ⟨q, hq, h⟩ := List.any_eq_true.mp h
  simp only [Bool.and_eq_true] at h
  exact ⟨q, hq, Nat.eq_of_beq_eq_true h.1.1.1, Nat.eq_of_beq_eq_true h.1.1.2, Nat.eq_of_beq_eq_true h.1.2, Nat.eq_of_beq_eq_true h.2⟩
theorem mHas4_at {l : List (Nat × Nat × Nat × Nat)} {a b c : Nat} (h : mHas4 l a b c = true) : ∃ q ∈ l, q.1 = a ∧ q.2.1 = b ∧ q.2.2.1 = c := by
  unfold mHas4 at h
  obtain ⟨q, hq, h⟩ := List.any_eq_true.mp h
  simp only [Bool.and_eq_true] at h
  exact ⟨q, hq, Nat.eq_of_beq_eq_true h.1.1, Nat.eq_of_beq_eq_true h.1.2, Nat.eq_of_beq_eq_true h.2⟩
theorem mHas3_at {l : List (Nat × Nat × Nat)} {a b : Nat} (h : mHas3 l a b = true) : ∃ q ∈ l, q.1 = a ∧ q.2.1 = b := by
  unfold mHas3 at h
  obtain ⟨q, hq, h⟩ := List.any_eq_true.mp h
  simp only [Bool.and_eq_true] at h
  exact ⟨q, hq, Nat.eq_of_beq_eq_true h.1, Nat.eq_of_beq_eq_true h.2⟩
theorem mHasC_at {l : List (Nat × Nat × Int × Nat)} {a b : Nat} {z : Int} (h : mHasC l a b z = true) : ∃ q ∈ l, q.1 = a ∧ q.2.1 = b ∧ q.2.2.1 = z := by
  unfold mHasC at h
  obtain ⟨q, hq, h⟩ := List.any_eq_true.mp h
  simp only [Bool.and_eq_true, decide_eq_true_eq] at h
  exact ⟨q, hq, Nat.eq_of_beq_eq_true h.1.1, Nat.eq_of_beq_eq_true h.1.2, h.2⟩
theorem fT_at {o k ci r : Nat} (h : mHas5 fT o k ci r = true) : Cond.fieldLink (mCN o) k (mCN ci) (mTf ci r).2.1 (mTf ci r).2.2.1 ∈ mGW := by
  obtain ⟨q, hq, rfl, rfl, rfl, rfl⟩ := mHas5_at h
  exact mGW_at _ (List.all_eq_true.mp fT_all q hq)
theorem fN_at {o k ci r : Nat} (h : mHas5 fN o k ci r = true) : Cond.fieldLinkNest (mCN o) k (mCN ci) (mTf ci r).2.1 (mTf ci r).2.2.1 "TenthMan" ∈ lw_tbl := by
  obtain ⟨q, hq, rfl, rfl, rfl, rfl⟩ := mHas5_at h
  have h := List.all_eq_true.mp fN_all q hq
  rw [decide_eq_true_eq] at h
  exact List.mem_of_getElem? h
theorem cT_at {o k : Nat} {z : Int} (h : mHasC cT o k z = true) : Cond.constant (mCN o) k (Int32.ofInt z) ∈ mGW := by
  obtain ⟨q, hq, rfl, rfl, rfl⟩ := mHasC_at h
  exact mGW_at _ (List.all_eq_true.mp cT_all q hq)
theorem lT_at {o k : Nat} {z : Int} (h : mHasC lT o k z = true) : Cond.constantLong (mCN o) k (Int64.ofInt z) ∈ mGW := by
  obtain ⟨q, hq, rfl, rfl, rfl⟩ := mHasC_at h
  exact mGW_at _ (List.all_eq_true.mp lT_all q hq)
theorem oT_at {o k : Nat} (h : mHas3 oT o k = true) : Cond.methodLink (mCN o) k objectInit ∈ mGW := by
  obtain ⟨q, hq, rfl, rfl⟩ := mHas3_at h
  exact mGW_at _ (List.all_eq_true.mp oT_all q hq)
theorem aT_at {o k : Nat} (h : mHas3 aT o k = true) : Cond.methodLink (mCN o) k arraycopyName ∈ mGW := by
  obtain ⟨q, hq, rfl, rfl⟩ := mHas3_at h
  exact mGW_at _ (List.all_eq_true.mp aT_all q hq)
theorem gT_at {o k : Nat} (h : mHas3 gT o k = true) : Cond.classLink (mCN o) k "[[I" ∈ mGW := by
  obtain ⟨q, hq, rfl, rfl⟩ := mHas3_at h
  exact mGW_at _ (List.all_eq_true.mp gT_all q hq)
theorem kT_at {o k ci : Nat} (h : mHas4 kT o k ci = true) : Cond.classLink (mCN o) k (mCN ci) ∈ mGW := by
  obtain ⟨q, hq, rfl, rfl, rfl⟩ := mHas4_at h
  exact mGW_at _ (List.all_eq_true.mp kT_all q hq)
theorem iT_at {i : Nat} (hi : i < 11) : Cond.instantiable (mCN i) (mNf i) ∈ mGW ∧ Cond.initialized (mCN i) ∈ mGW := by
  have h := List.all_eq_true.mp iT_all i (List.mem_range.mpr hi)
  rw [Bool.and_eq_true] at h
  exact ⟨mGW_at _ h.1, mGW_at _ h.2⟩
