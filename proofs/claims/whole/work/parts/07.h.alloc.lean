/-! ===== switches; new cells; arraycopy ===== -/
theorem mSw_inv {x : Int} {d : Nat} {g : Nat → mRes} {r : Int × mMem} : ∀ {sw : List (Int × Nat)}, mSw x sw d g = some r → (∃ i : Nat, ∃ t : Nat, sw[i]? = some (x, t) ∧ g t = some r) ∨ ((∀ q ∈ sw, x ≠ q.1) ∧ g d = some r)
  | [], h => Or.inr ⟨(fun q hq => absurd hq List.not_mem_nil), h⟩
  | (v, t) :: rest, h => by
    unfold mSw at h
    by_cases e : x = v
    · rw [if_pos e] at h
      subst e
      exact Or.inl ⟨0, t, rfl, h⟩
    · rw [if_neg e] at h
      rcases mSw_inv h with ⟨i, t', h1, h2⟩ | ⟨h1, h2⟩
      · exact Or.inl ⟨i + 1, t', h1, h2⟩
      · exact Or.inr ⟨fun q hq => by
          rcases List.mem_cons.mp hq with rfl | hq
          · exact e
          · exact h1 q hq, h2⟩
section MS5
variable {p : Program} {l : Launch} {e : Env} {R : Room} {s : State} {m : MethodId} {args : Array Value} {below : List Frame} {meth : Method} {c : Code} {Q : State → Prop} {D : va_G} {cA : Nat → ClassId} {ad : Nat → Nat} {base n0 s0 ml o kind : Nat} {bs : ByteArray} {pc : Nat} {ls : mLs} {st : List mV} {M : mMem}
theorem ms_table (cx : mCx p s m args meth c o kind bs ml D cA ad base) {x d lo hi : Int} {offs : Array Int} {len r1 : Nat} {sw : List (Int × Nat)} (hck : mCkSw pc d lo hi offs.toList r1 sw = true) (hd : decode bs pc = .ok (.tableswitch d lo hi offs, len)) (k : (∃ i : Nat, ∃ t : Nat, sw[i]? = some (x, t) ∧ mG p l e R s m args below meth c Q D cA ad base n0 s0 ml t ls st M) ∨ ((∀ q ∈ sw, x ≠ q.1) ∧ mG p l e R s m args below meth c Q D cA ad base n0 s0 ml r1 ls st M)) : mG p l e R s m args below meth c Q D cA ad base n0 s0 ml pc ls (mI x :: st) M := by
  intro H locs lsA hR hs hl hL
  obtain ⟨hx, hs⟩ := mOkS_c.mp hs
  unfold mCkSw at hck
  simp only [Bool.and_eq_true, decide_eq_true_eq, List.all_eq_true, List.mem_range] at hck
  obtain ⟨⟨⟨h1, h2⟩, h3⟩, h4⟩ := hck
  rcases k with ⟨i, t, h5, k⟩ | ⟨h5, k⟩
  · have hi0 : i < sw.length := (List.getElem?_eq_some_iff.mp h5).1
    have hi1 : i < offs.toList.length := by omega
    have h6 := h4 i hi1
    have h7 : sw.getD i (0, 0) = (x, t) := by rw [List.getD_eq_getElem?_getD, h5]; rfl
    rw [h7] at h6
    have hx1 : x = lo + i := h6.1
    have ht : (t : Int) = pc + offs.toList.getD i 0 := h6.2
    refine lv_tableIn (x := Int32.ofInt x) (off := offs.toList.getD i 0) (tgt := t) cx.1 cx.2.1 hd ?_ ?_ ?_ ht.symm (k H locs lsA hR hs hl hL)
    · rw [o32_toInt hx]; omega
    · rw [o32_toInt hx]; omega
    · rw [o32_toInt hx, show (x - lo).toNat = i by omega, ← Array.getElem?_toList, List.getD_eq_getElem?_getD, List.getElem?_eq_getElem hi1]; rfl
  · refine lv_tableOut (x := Int32.ofInt x) (tgt := r1) cx.1 cx.2.1 hd ?_ h1 (k H locs lsA hR hs hl hL)
    rw [o32_toInt hx]
    apply Classical.byContradiction
    intro hn
    have hi1 : (x - lo).toNat < offs.toList.length := by omega
    have h6 := h4 _ hi1
    have h8 : (x - lo).toNat < sw.length := by omega
    have h7 : sw.getD (x - lo).toNat (0, 0) ∈ sw := by rw [List.getD_eq_getElem?_getD, List.getElem?_eq_getElem h8]; exact List.getElem_mem h8
    exact h5 _ h7 (by rw [h6.1]; omega)
theorem mW_size {H : Heap} {locs : List Loc} {cells slots : Nat} {g : JFrame} (h : H.size ≤ s.heap.size + cells → W p l e R s m args below meth c H locs cells slots Q g) : W p l e R s m args below meth c H locs cells slots Q g := fun T hT X => h (by
  have h1 := X.same.2.2.1
  have h2 : (T.setVm s.vm).heap = H := hT
  rw [h2] at h1
  exact h1) T hT X
theorem mShape_new {M : mMem} {k n a : Nat} (h : a < M.1.length) : mShape (mNew M k n) a = mShape M a := by
  unfold mShape mNew
  rw [List.getElem?_append_left h]
theorem mShape_last {M : mMem} {k n : Nat} : mShape (mNew M k n) M.1.length = (k, n) := by
  unfold mShape mNew
  simp
theorem mWl_new {M : mMem} {k n : Nat} : mWl ad cA (mNew M k n) = mWl ad cA M ++ [(ad M.1.length, mEntry ad cA (mNew M k n) M.1.length)] := by
  unfold mWl
  have e1 : (mNew M k n).1.length = M.1.length + 1 := by simp [mNew]
  rw [e1, List.range_succ, List.map_append]
  congr 1
  apply List.map_congr_left
  intro a ha
  have ha := List.mem_range.mp ha
  rw [mEntry_eq (mShape_new ha) (m1_ne (Nat.ne_of_lt ha)) (m1_ne (Nat.ne_of_lt ha))]
theorem mOkM_new {M : mMem} {k n : Nat} (h : mOkM M) : mOkM (mNew M k n) := by
  intro a i
  show w64 (m1 M.2.1 M.1.length (fun _ => 0) a i) = m1 M.2.1 M.1.length (fun _ => 0) a i ∧ (mIsJ (mShape (mNew M k n) a).1 i.toNat = false → w32 (m1 M.2.1 M.1.length (fun _ => 0) a i) = m1 M.2.1 M.1.length (fun _ => 0) a i)
  by_cases e1 : a = M.1.length
  · rw [e1, m1_at]; exact ⟨by decide, fun _ => by decide⟩
  · rw [m1_ne e1]
    by_cases e2 : a < M.1.length
    · rw [mShape_new e2]; exact h a i
    · have e3 : mShape (mNew M k n) a = mShape M a := by
        unfold mShape
        rw [List.getElem?_eq_none (by simp [mNew]; omega), List.getElem?_eq_none (by omega)]
      rw [e3]; exact h a i
theorem mShOk_new {M : mMem} {k n : Nat} (h : mShOk M) (hk : k < 5 ∨ (10 ≤ k ∧ k < 21 ∧ n = mNf (k - 10))) : mShOk (mNew M k n) := by
  intro a ha
  have e1 : (mNew M k n).1.length = M.1.length + 1 := by simp [mNew]
  by_cases e2 : a < M.1.length
  · rw [mShape_new e2]; exact h a e2
  · have e3 : a = M.1.length := by omega
    rw [e3, mShape_last]; exact hk
/-- where a new cell lies -/
theorem new_at {H1 : Heap} {M : mMem} {q : Nat} {E : va_E} (had : ∀ a, a < 1000 → ad a = base + a) (hn : M.1.length < 1000) (hP : va_P D vwCl (mWl ad cA M ++ [(q, E)]) H1) (hD : va_D (mAd base) (mWl ad cA M ++ [(q, E)])) (hz : H1.size ≤ base + M.1.length + 1) : q = ad M.1.length := by
  have hl : (mWl ad cA M).length = M.1.length := by simp [mWl]
  have hq : (mWl ad cA M ++ [(q, E)])[M.1.length]? = some (q, E) := by rw [← hl]; simp
  have h1 : q < H1.size := (hP _ _ hq).lt
  have h2 : base ≤ q := hD.2 _ _ hq
  apply Classical.byContradiction
  intro hne
  rw [had _ hn] at hne
  have h3 : q - base < M.1.length := by omega
  have h4 : (mWl ad cA M ++ [(q, E)])[q - base]? = some (ad (q - base), mEntry ad cA M (q - base)) := by
    rw [List.getElem?_append_left (by omega)]; exact mWl_at h3
  have h5 := hD.1 _ _ _ _ hq h4 (by show q = ad (q - base); rw [had _ (by omega)]; omega)
  omega
theorem ms_new (cx : mCx p s m args meth c o kind bs ml D cA ad base) (had : ∀ a, a < 1000 → ad a = base + a) (hn0 : s.heap.size = base + n0) {i ci : Nat} (hci : ci < 11) (hk : mHas4 kT o i ci = true) (hn : M.1.length < 1000) (hRc : M.1.length - n0 + 1 ≤ R.cells) (hRs : mSl M - s0 + mNf ci ≤ R.slots) (hd : decode bs pc = .ok (.new i, 3)) (k : mG p l e R s m args below meth c Q D cA ad base n0 s0 ml (pc + 3) ls (mP M.1.length :: st) (mNew M (10 + ci) (mNf ci))) : mG p l e R s m args below meth c Q D cA ad base n0 s0 ml pc ls st M := by
  intro H locs lsA hR hs hl hL
  have hfs : ∀ j, j < mNf ci → defaultValue (mTy ci j) = vp_V (mFs ad (mNew M (10 + ci) (mNf ci)) M.1.length ci (mNf ci)) j := by
    intro j hj
    have e1 : vp_V (mFs ad (mNew M (10 + ci) (mNf ci)) M.1.length ci (mNf ci)) j = mFv ad (mNew M (10 + ci) (mNf ci)) M.1.length j (mFk ci j) := by
      unfold vp_V; rw [List.getD_eq_getElem?_getD, mFs_at hj]; rfl
    have e2 : (mNew M (10 + ci) (mNf ci)).2.1 M.1.length (j : Int) = 0 := congrFun (m1_at (f := M.2.1) (a := M.1.length) (g := fun _ => (0 : Int))) (j : Int)
    have e3 : (mNew M (10 + ci) (mNf ci)).2.2 M.1.length (j : Int) = none := congrFun (m1_at (f := M.2.2) (a := M.1.length) (g := fun _ => (none : Option Nat))) (j : Int)
    rw [e1]
    have h := (own_at hci hj).2.2
    unfold mFv
    rw [e2, e3]
    revert h
    generalize mTy ci j = ty
    generalize mFk ci j = fk
    intro h
    match fk with
    | 0 => rw [of_decide_eq_true h]; rfl
    | 1 => rw [of_decide_eq_true h]; rfl
    | 2 =>
      have h : (decide (2 = 2) && ty.isReference) = true := h
      have h2 : ty.isReference = true := by rw [Bool.and_eq_true] at h; exact h.2
      cases ty <;> first | rfl | cases h2
    | 3 => rw [of_decide_eq_true h]; rfl
    | n + 4 =>
      have h : (decide (n + 4 = 2) && ty.isReference) = true := h
      rw [Bool.and_eq_true, decide_eq_true_eq] at h
      omega
  refine va_new (T := mTf ci) (N := mNf ci) cx.1 cx.2.1 cx.2.2.2.2.1 (cl_in hci) (mTy ci) (fun k hk => (own_at hci hk).2.1) cx.2.2.2.1 (cx.2.2.2.2.1 _ (kT_at hk)) (cx.2.2.2.2.1 _ (iT_at hci).1) (cx.2.2.2.2.1 _ (iT_at hci).2) cx.2.2.2.2.2.2.1 hR.2.2.2.2.1 hR.2.2.2.2.2.1 hR.2.2.2.2.2.2 (fun q h => by show base ≤ q; omega) (vw_at ci hci) hfs hRc hRs hd (fun q H1 hP hD hS => ?_)
  refine mW_size fun hz => ?_
  have hq : q = ad M.1.length := new_at had hn hP hD (by have := hR.1; omega)
  have e1 : mEntry ad cA (mNew M (10 + ci) (mNf ci)) M.1.length = .inr (ci, mFs ad (mNew M (10 + ci) (mNf ci)) M.1.length ci (mNf ci)) := by
    rw [mEntry_obj (by rw [mShape_last]), mShape_last]
  subst hq
  rw [← e1, ← mWl_new] at hP hD
  have e2 : (mNew M (10 + ci) (mNf ci)).1.length = M.1.length + 1 := by simp [mNew]
  have e3 : mSl (mNew M (10 + ci) (mNf ci)) = mSl M + mNf ci := by simp [mNew, mSl]
  have k' := k H1 locs lsA ⟨by rw [e2]; have := hR.1; omega, by rw [e3]; have := hR.2.1; omega, mShOk_new hR.2.2.1 (Or.inr ⟨by omega, by omega, by rw [Nat.add_sub_cancel_left]⟩), mOkM_new hR.2.2.2.1, hP, hD, hS⟩ (mOkS_c.mpr ⟨trivial, hs⟩) hl hL
  rw [e2, e3, show M.1.length + 1 - n0 = M.1.length - n0 + 1 by have := hR.1; omega, show mSl M + mNf ci - s0 = mSl M - s0 + mNf ci by have := hR.2.1; omega] at k'
  exact k'
end MS5
