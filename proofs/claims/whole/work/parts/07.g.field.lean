/-! ===== fields, constants, statics, outside rows, switches ===== -/
theorem mFs_at {ad : Nat → Nat} {M : mMem} {a ci n k : Nat} (h : k < n) : (mFs ad M a ci n)[k]? = some (mFv ad M a k (mFk ci k)) := by simp [mFs, h]
theorem mFv_get {ad : Nat → Nat} {M : mMem} {a k kd : Nat} : mCv ad (mGetF M a k kd) = mFv ad M a k kd := by
  match kd with
  | 0 => rfl
  | 1 => rfl
  | 2 => rfl
  | _ + 3 => rfl
theorem mFs_set {ad : Nat → Nat} {M N : mMem} {a ci n k : Nat} {v : Value} (hv : mFv ad N a k (mFk ci k) = v) (ho : ∀ j : Nat, j ≠ k → N.2.1 a j = M.2.1 a j ∧ N.2.2 a j = M.2.2 a j) : (mFs ad M a ci n).set k v = mFs ad N a ci n := by
  apply List.ext_getElem?
  intro j
  by_cases hj : j < n
  · rw [mFs_at hj]
    by_cases e : j = k
    · subst e
      rw [List.getElem?_set_self (by simp [mFs, hj]), hv]
    · rw [List.getElem?_set_ne (Ne.symm e), mFs_at hj]
      unfold mFv
      rw [(ho j e).1, (ho j e).2]
  · rw [List.getElem?_eq_none (by rw [List.length_set]; simp [mFs]; omega), List.getElem?_eq_none (by simp [mFs]; omega)]
theorem mCkFld_at {o k ci r1 r2 : Nat} (h : mCkFld o k ci r1 r2 = true) : (mHas5 fT o k ci r1 = true ∨ mHas5 fN o k ci r1 = true) ∧ ci < 11 ∧ r1 < mNf ci ∧ r2 = mFk ci r1 := by
  unfold mCkFld at h
  simp only [Bool.and_eq_true, Bool.or_eq_true] at h
  exact ⟨h.1.1.1, Nat.le_of_ble_eq_true h.1.1.2, Nat.le_of_ble_eq_true h.1.2, Nat.eq_of_beq_eq_true h.2⟩
theorem ref_nar {ty : FieldType} (h : ty.isReference = true) (r : Option Nat) : narrow ty (va_rf r) = va_rf r ∧ fits ty (va_rf r) = true := by
  cases ty <;> cases r <;> first | exact ⟨rfl, rfl⟩ | cases h
section MS4
variable {p : Program} {l : Launch} {e : Env} {R : Room} {s : State} {m : MethodId} {args : Array Value} {below : List Frame} {meth : Method} {c : Code} {Q : State → Prop} {D : va_G} {cA : Nat → ClassId} {ad : Nat → Nat} {base n0 s0 ml o kind : Nat} {bs : ByteArray} {pc : Nat} {ls : mLs} {st : List mV} {M : mMem}
theorem ms_getfield (cx : mCx p s m args meth c o kind bs ml D cA ad base) {a i ci r1 r2 : Nat} (hck : mCkFld o i ci r1 r2 = true) (ha : mObj M a ci = true) (hd : decode bs pc = .ok (.getfield i, 3)) (k : mG p l e R s m args below meth c Q D cA ad base n0 s0 ml (pc + 3) ls (mGetF M a r1 r2 :: st) M) : mG p l e R s m args below meth c Q D cA ad base n0 s0 ml pc ls (mP a :: st) M := by
  obtain ⟨hf, hci, hr1, rfl⟩ := mCkFld_at hck
  intro H locs lsA hR hs hl hL
  have hok : mOkV (mGetF M a r1 (mFk ci r1)) := by
    have h1 := hR.2.2.2.1 a (r1 : Int)
    have h2 : mFk ci r1 ≠ 1 → w32 (M.2.1 a r1) = M.2.1 a r1 := fun q => h1.2 (by rw [(mObj_lt hci ha).2]; exact mIsJ_obj q)
    unfold mGetF
    split
    · exact h1.1
    · trivial
    · rename_i q1 q2; exact h2 q1
  have k' := k H locs lsA hR (mOkS_c.mpr ⟨hok, (mOkS_c.mp hs).2⟩) hl hL
  rw [List.map_cons, mFv_get] at k'
  have hsame : ∀ x, s.fieldFound? (mTf ci r1).1 (mTf ci r1).2.1 (mTf ci r1).2.2.1 = some x → s.fieldFound? (mCN ci) (mTf ci r1).2.1 (mTf ci r1).2.2.1 = some x := fun x h => by rw [(own_at hci hr1).1] at h; exact h
  rcases hf with hf | hf
  · exact va_get (ref := mCN ci) cx.1 cx.2.1 cx.2.2.2.2.1 (cl_in hci) cx.2.2.2.1 cx.2.2.2.2.2.2.1 hR.2.2.2.2.1 a (mE_obj hci hR.2.2.1 ha) (vw_at ci hci) r1 hr1 (cx.2.2.2.2.1 _ (fT_at hf)) hsame (mFs_at hr1) hd k'
  · exact va_getN (ref := mCN ci) cx.1 cx.2.1 cx.2.2.2.2.1 (cl_in hci) cx.2.2.2.1 cx.2.2.2.2.2.2.1 hR.2.2.2.2.1 a (mE_obj hci hR.2.2.1 ha) (vw_at ci hci) r1 hr1 (va_Nw.use rfl (cx.2.2.2.2.2.1 _ (fN_at hf) rfl)) hsame (mFs_at hr1) hd k'
/-- a write into a field: the new memory N, the value v -/
theorem ms_putfield (cx : mCx p s m args meth c o kind bs ml D cA ad base) {a i ci r1 r2 : Nat} {v : mV} {N : mMem} (hck : mCkFld o i ci r1 r2 = true) (hfin : (!(mTf ci r1).2.2.2 || (Nat.beq kind 2 && Nat.beq o ci && mHas5 fT o i ci r1)) = true) (ha : mObj M a ci = true)
    (hN1 : N.1 = M.1) (hNo : ∀ b, b ≠ a → N.2.1 b = M.2.1 b ∧ N.2.2 b = M.2.2 b) (hNj : ∀ j : Nat, j ≠ r1 → N.2.1 a j = M.2.1 a j ∧ N.2.2 a j = M.2.2 a j) (hNv : mFv ad N a r1 (mFk ci r1) = mCv ad v) (hok : mOkM M → mOkV v → mOkM N) (hnar : narrow (mTy ci r1) (mCv ad v) = mCv ad v ∧ fits (mTy ci r1) (mCv ad v) = true)
    (hd : decode bs pc = .ok (.putfield i, 3)) (k : mG p l e R s m args below meth c Q D cA ad base n0 s0 ml (pc + 3) ls st N) : mG p l e R s m args below meth c Q D cA ad base n0 s0 ml pc ls (v :: mP a :: st) M := by
  obtain ⟨hf, hci, hr1, rfl⟩ := mCkFld_at hck
  intro H locs lsA hR hs hl hL
  obtain ⟨hv, hs⟩ := mOkS_c.mp hs
  have hs := (mOkS_c.mp hs).2
  have hsame : ∀ x, s.fieldFound? (mTf ci r1).1 (mTf ci r1).2.1 (mTf ci r1).2.2.1 = some x → s.fieldFound? (mCN ci) (mTf ci r1).2.1 (mTf ci r1).2.2.1 = some x := fun x h => by rw [(own_at hci hr1).1] at h; exact h
  have hS2 : mShOk N := fun b hb => by rw [mShape_eq hN1]; exact hR.2.2.1 b (by rw [← hN1]; exact hb)
  have hE : mEntry ad cA N a = .inr (ci, (mFs ad M a ci (mNf ci)).set r1 (mCv ad v)) := by
    have hb : mObj N a ci = true := by unfold mObj; rw [mShape_eq hN1]; exact ha
    have e1 := mE_obj (ad := ad) (cA := cA) hci hS2 hb
    rw [mWl_at (mObj_lt hci hb).1] at e1
    rw [mFs_set hNv hNj]
    exact (Prod.mk.inj (Option.some.inj e1)).2
  have hlen : r1 < (mFs ad M a ci (mNf ci)).length := by simp [mFs, hr1]
  have kk : ∀ (H1 : Heap) (locs1 : List Loc), va_P D vwCl ((mWl ad cA M).set a (ad a, .inr (ci, (mFs ad M a ci (mNf ci)).set r1 (mCv ad v)))) H1 → va_D (mAd base) ((mWl ad cA M).set a (ad a, .inr (ci, (mFs ad M a ci (mNf ci)).set r1 (mCv ad v)))) → va_S (mAd base) s.heap H1 locs1 → W p l e R s m args below meth c H1 locs1 (M.1.length - n0) (mSl M - s0) Q (F0 m (pc + 3) lsA (st.map (mCv ad))) := by
    intro H1 locs1 hP hD hS
    rw [mWl_set (M := M) (N := N) hN1 hNo hE] at hP hD
    have e2 : M.1.length = N.1.length := by rw [hN1]
    have e3 : mSl M = mSl N := by unfold mSl; rw [hN1]
    rw [e2, e3]
    exact k H1 locs1 lsA ⟨by rw [hN1]; exact hR.1, by rw [← e3]; exact hR.2.1, hS2, hok hR.2.2.2.1 hv, hP, hD, hS⟩ hs hl hL
  by_cases hq : (mTf ci r1).2.2.2 = false
  · rcases hf with hf | hf
    · exact va_put (ref := mCN ci) cx.1 cx.2.1 cx.2.2.2.2.1 (cl_in hci) (mTy ci) (fun k hk => (own_at hci hk).2.1) (nm_all ci hci) cx.2.2.2.1 cx.2.2.2.2.2.2.1 hR.2.2.2.2.1 hR.2.2.2.2.2.1 hR.2.2.2.2.2.2 a (mE_obj hci hR.2.2.1 ha) (vw_at ci hci) r1 hr1 (cx.2.2.2.2.1 _ (fT_at hf)) hsame hq (own_at hci hr1).2.1 hnar.1 hnar.2 hlen hd kk
    · exact va_putN (ref := mCN ci) cx.1 cx.2.1 cx.2.2.2.2.1 (cl_in hci) (mTy ci) (fun k hk => (own_at hci hk).2.1) (nm_all ci hci) cx.2.2.2.1 cx.2.2.2.2.2.2.1 hR.2.2.2.2.1 hR.2.2.2.2.2.1 hR.2.2.2.2.2.2 a (mE_obj hci hR.2.2.1 ha) (vw_at ci hci) r1 hr1 (va_Nw.use rfl (cx.2.2.2.2.2.1 _ (fN_at hf) rfl)) hsame hq (own_at hci hr1).2.1 hnar.1 hnar.2 hlen hd kk
  · have hq : (mTf ci r1).2.2.2 = true := by cases h : (mTf ci r1).2.2.2 with | true => rfl | false => exact absurd h hq
    rw [hq] at hfin
    simp only [Bool.not_true, Bool.false_or, Bool.and_eq_true] at hfin
    have h1 := Nat.eq_of_beq_eq_true hfin.1.1
    have h2 := Nat.eq_of_beq_eq_true hfin.1.2
    exact va_putF (ref := mCN ci) cx.1 cx.2.1 cx.2.2.2.2.1 (cl_in hci) (mTy ci) (fun k hk => (own_at hci hk).2.1) (nm_all ci hci) cx.2.2.2.1 cx.2.2.2.2.2.2.1 hR.2.2.2.2.1 hR.2.2.2.2.2.1 hR.2.2.2.2.2.2 a (mE_obj hci hR.2.2.1 ha) (vw_at ci hci) r1 hr1 (cx.2.2.2.2.1 _ (fT_at hfin.2)) hsame hq (cx.2.2.2.2.2.2.2.1 h1) (by rw [(own_at hci hr1).1, h2]) (own_at hci hr1).2.1 hnar.1 hnar.2 hlen hd kk
theorem ms_ldc (cx : mCx p s m args meth c o kind bs ml D cA ad base) {i : Nat} {z : Int} (hz : mHasC cT o i z = true) (hw : w32 z = z) (hd : decode bs pc = .ok (.ldc i, 2)) (k : mG p l e R s m args below meth c Q D cA ad base n0 s0 ml (pc + 2) ls (mI z :: st) M) : mG p l e R s m args below meth c Q D cA ad base n0 s0 ml pc ls st M :=
  fun H locs lsA hR hs hl hL => lv_ldc cx.1 cx.2.1 cx.2.2.2.1 (cx.2.2.2.2.1 _ (cT_at hz)) hd (k H locs lsA hR (mOkS_c.mpr ⟨hw, hs⟩) hl hL)
theorem ms_ldcw (cx : mCx p s m args meth c o kind bs ml D cA ad base) {i : Nat} {z : Int} (hz : mHasC cT o i z = true) (hw : w32 z = z) (hd : decode bs pc = .ok (.ldc_w i, 3)) (k : mG p l e R s m args below meth c Q D cA ad base n0 s0 ml (pc + 3) ls (mI z :: st) M) : mG p l e R s m args below meth c Q D cA ad base n0 s0 ml pc ls st M :=
  fun H locs lsA hR hs hl hL => lv_ldcw cx.1 cx.2.1 cx.2.2.2.1 (cx.2.2.2.2.1 _ (cT_at hz)) hd (k H locs lsA hR (mOkS_c.mpr ⟨hw, hs⟩) hl hL)
theorem ms_ldc2 (cx : mCx p s m args meth c o kind bs ml D cA ad base) {i : Nat} {z : Int} (hz : mHasC lT o i z = true) (hw : w64 z = z) (hd : decode bs pc = .ok (.ldc2_w i, 3)) (k : mG p l e R s m args below meth c Q D cA ad base n0 s0 ml (pc + 3) ls (mJ z :: st) M) : mG p l e R s m args below meth c Q D cA ad base n0 s0 ml pc ls st M :=
  fun H locs lsA hR hs hl hL => lv_ldc2 cx.1 cx.2.1 cx.2.2.2.1 (cx.2.2.2.2.1 _ (lT_at hz)) hd (k H locs lsA hR (mOkS_c.mpr ⟨hw, hs⟩) hl hL)
theorem ms_ldcS (cx : mCx p s m args meth c 4 kind bs ml D cA ad base) (hd : decode bs pc = .ok (.ldc 199, 2)) (k : mG p l e R s m args below meth c Q D cA ad base n0 s0 ml (pc + 2) ls (mP 1002 :: st) M) : mG p l e R s m args below meth c Q D cA ad base n0 s0 ml pc ls st M :=
  fun H locs lsA hR hs hl hL => va_ldcS cx.1 cx.2.1 cx.2.2.2.1 cx.2.2.2.2.2.2.2.2.2.2.2.2.1 hd (k H locs lsA hR (mOkS_c.mpr ⟨trivial, hs⟩) hl hL)
theorem ms_getNamed (cx : mCx p s m args meth c 9 kind bs ml D cA ad base) (hd : decode bs pc = .ok (.getstatic 133, 3)) (k : mG p l e R s m args below meth c Q D cA ad base n0 s0 ml (pc + 3) ls (mP 1001 :: st) M) : mG p l e R s m args below meth c Q D cA ad base n0 s0 ml pc ls st M :=
  fun H locs lsA hR hs hl hL => va_gets (ref := "TenthMan") cx.1 cx.2.1 cx.2.2.2.2.2.2.2.2.2.2.1 hR.2.2.2.2.2.2 cx.2.2.2.1 (cx.2.2.2.2.1 (.fieldLink (mCN 9) 133 "TenthMan" "NAMED" "[I") (mGW_of ⟨by decide +kernel, by decide +kernel⟩)) (fun _ h => h) hd (k H locs lsA hR (mOkS_c.mpr ⟨trivial, hs⟩) hl hL)
theorem ms_getMost4 (cx : mCx p s m args meth c 4 kind bs ml D cA ad base) (hd : decode bs pc = .ok (.getstatic 171, 3)) (k : mG p l e R s m args below meth c Q D cA ad base n0 s0 ml (pc + 3) ls (mP 1000 :: st) M) : mG p l e R s m args below meth c Q D cA ad base n0 s0 ml pc ls st M :=
  fun H locs lsA hR hs hl hL => va_getsN (ref := "TenthMan") (host := "TenthMan") cx.1 cx.2.1 cx.2.2.2.2.2.2.2.2.1 hR.2.2.2.2.2.2 cx.2.2.2.1 (va_Nw.use rfl (cx.2.2.2.2.2.1 (.fieldLinkNest (mCN 4) 171 "TenthMan" "MOST" "[I" "TenthMan") (by decide +kernel) rfl)) (fun _ h => h) hd (k H locs lsA hR (mOkS_c.mpr ⟨trivial, hs⟩) hl hL)
theorem ms_getMost7 (cx : mCx p s m args meth c 7 kind bs ml D cA ad base) (hd : decode bs pc = .ok (.getstatic 9, 3)) (k : mG p l e R s m args below meth c Q D cA ad base n0 s0 ml (pc + 3) ls (mP 1000 :: st) M) : mG p l e R s m args below meth c Q D cA ad base n0 s0 ml pc ls st M :=
  fun H locs lsA hR hs hl hL => va_getsN (ref := "TenthMan") (host := "TenthMan") cx.1 cx.2.1 cx.2.2.2.2.2.2.2.2.1 hR.2.2.2.2.2.2 cx.2.2.2.1 (va_Nw.use rfl (cx.2.2.2.2.2.1 (.fieldLinkNest (mCN 7) 9 "TenthMan" "MOST" "[I" "TenthMan") (by decide +kernel) rfl)) (fun _ h => h) hd (k H locs lsA hR (mOkS_c.mpr ⟨trivial, hs⟩) hl hL)
theorem xMost_ok : ∀ n : Nat, n < 4 → w32 (xMost.getD n 0) = xMost.getD n 0 := by decide +kernel
theorem xNamed_ok : ∀ n : Nat, n < 3 → w32 (xNamed.getD n 0) = xNamed.getD n 0 := by decide +kernel
theorem ms_most (cx : mCx p s m args meth c o kind bs ml D cA ad base) {i : Int} (hi : 0 ≤ i ∧ i < 4) (hd : decode bs pc = .ok (.iaload, 1)) (k : mG p l e R s m args below meth c Q D cA ad base n0 s0 ml (pc + 1) ls (mI (xMost.getD i.toNat 0) :: st) M) : mG p l e R s m args below meth c Q D cA ad base n0 s0 ml pc ls (mI i :: mP 1000 :: st) M := by
  intro H locs lsA hR hs hl hL
  obtain ⟨hw, hs⟩ := mOkS_c.mp hs
  exact va_ti (i := Int32.ofInt i) cx.1 cx.2.1 cx.2.2.2.2.2.2.2.2.2.1 hR.2.2.2.2.2.2 (o32_in hw hi) (by rw [o32_cl hw]; rfl) hd (k H locs lsA hR (mOkS_c.mpr ⟨xMost_ok _ (by omega), (mOkS_c.mp hs).2⟩) hl hL)
theorem ms_named (cx : mCx p s m args meth c o kind bs ml D cA ad base) {i : Int} (hi : 0 ≤ i ∧ i < 3) (hd : decode bs pc = .ok (.iaload, 1)) (k : mG p l e R s m args below meth c Q D cA ad base n0 s0 ml (pc + 1) ls (mI (xNamed.getD i.toNat 0) :: st) M) : mG p l e R s m args below meth c Q D cA ad base n0 s0 ml pc ls (mI i :: mP 1001 :: st) M := by
  intro H locs lsA hR hs hl hL
  obtain ⟨hw, hs⟩ := mOkS_c.mp hs
  exact va_ti (i := Int32.ofInt i) cx.1 cx.2.1 cx.2.2.2.2.2.2.2.2.2.2.2.1 hR.2.2.2.2.2.2 (o32_in hw hi) (by rw [o32_cl hw]; rfl) hd (k H locs lsA hR (mOkS_c.mpr ⟨xNamed_ok _ (by omega), (mOkS_c.mp hs).2⟩) hl hL)
theorem ms_mostLen (cx : mCx p s m args meth c o kind bs ml D cA ad base) (hd : decode bs pc = .ok (.arraylength, 1)) (k : mG p l e R s m args below meth c Q D cA ad base n0 s0 ml (pc + 1) ls (mI 4 :: st) M) : mG p l e R s m args below meth c Q D cA ad base n0 s0 ml pc ls (mP 1000 :: st) M :=
  fun H locs lsA hR hs hl hL => va_tlen cx.1 cx.2.1 cx.2.2.2.2.2.2.2.2.2.1 hR.2.2.2.2.2.2 rfl hd (k H locs lsA hR (mOkS_c.mpr ⟨(show w32 4 = 4 by decide), (mOkS_c.mp hs).2⟩) hl hL)
theorem ms_namedLen (cx : mCx p s m args meth c o kind bs ml D cA ad base) (hd : decode bs pc = .ok (.arraylength, 1)) (k : mG p l e R s m args below meth c Q D cA ad base n0 s0 ml (pc + 1) ls (mI 3 :: st) M) : mG p l e R s m args below meth c Q D cA ad base n0 s0 ml pc ls (mP 1001 :: st) M :=
  fun H locs lsA hR hs hl hL => va_tlen cx.1 cx.2.1 cx.2.2.2.2.2.2.2.2.2.2.2.1 hR.2.2.2.2.2.2 rfl hd (k H locs lsA hR (mOkS_c.mpr ⟨(show w32 3 = 3 by decide), (mOkS_c.mp hs).2⟩) hl hL)
end MS4
