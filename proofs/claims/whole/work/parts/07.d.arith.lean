/-! ===== arithmetic and branches ===== -/
section MS2
variable {p : Program} {l : Launch} {e : Env} {R : Room} {s : State} {m : MethodId} {args : Array Value} {below : List Frame} {meth : Method} {c : Code} {Q : State → Prop} {D : va_G} {cA : Nat → ClassId} {ad : Nat → Nat} {base n0 s0 ml o kind : Nat} {bs : ByteArray} {pc : Nat} {ls : mLs} {st : List mV} {M : mMem}
theorem ms_iinc (cx : mCx p s m args meth c o kind bs ml D cA ad base) {i : Nat} {n x : Int} (hv : ls[i]? = some (some (mI x))) (hd : decode bs pc = .ok (.iinc i n, 3)) (k : mG p l e R s m args below meth c Q D cA ad base n0 s0 ml (pc + 3) (ls.set i (some (mI (w32 (x + n))))) st M) : mG p l e R s m args below meth c Q D cA ad base n0 s0 ml pc ls st M := by
  intro H locs lsA hR hs hl hL
  have hb : mBefore ls i = false := by
    match i with
    | 0 => rfl
    | j + 1 =>
      cases hq : mLong ls j with
      | false => exact hq
      | true =>
        obtain ⟨y, hy⟩ := mLong_iff.mp hq
        have h1 := mLR_at hL hy
        have h2 := hL.2.2.1.1 j _ h1 rfl
        have h3 := mLR_at hL hv
        rw [h2] at h3
        cases h3
  obtain ⟨q, hq⟩ := mAl_pos (ad := ad) hv
  have hi' : i < ml := by rw [← hL.1]; exact (List.getElem?_eq_some_iff.mp hv).1
  exact lv_iinc (v := Int32.ofInt (w32 (x + n))) cx.1 cx.2.1 hd hL.2 hq (o32_add x n) hi' rfl fun ls' q => k H locs ls' hR hs (mOkL_set hl (w32_w32 _)) (mLR_set (ad := ad) (v := mI (w32 (x + n))) hL.1 hb q)
theorem ms_iadd (cx : mCx p s m args meth c o kind bs ml D cA ad base) {a b : Int} (hd : decode bs pc = .ok (.iadd, 1)) (k : mG p l e R s m args below meth c Q D cA ad base n0 s0 ml (pc + 1) ls (mI (w32 (a + b)) :: st) M) : mG p l e R s m args below meth c Q D cA ad base n0 s0 ml pc ls (mI b :: mI a :: st) M := by
  intro H locs lsA hR hs hl hL
  obtain ⟨hb, hs⟩ := mOkS_c.mp hs
  obtain ⟨ha, hs⟩ := mOkS_c.mp hs
  refine lv_iadd (x := Int32.ofInt a) (y := Int32.ofInt b) cx.1 cx.2.1 hd ?_
  rw [o32_add]
  exact k H locs lsA hR (mOkS_c.mpr ⟨w32_w32 _, hs⟩) hl hL
theorem ms_isub (cx : mCx p s m args meth c o kind bs ml D cA ad base) {a b : Int} (hd : decode bs pc = .ok (.isub, 1)) (k : mG p l e R s m args below meth c Q D cA ad base n0 s0 ml (pc + 1) ls (mI (w32 (a - b)) :: st) M) : mG p l e R s m args below meth c Q D cA ad base n0 s0 ml pc ls (mI b :: mI a :: st) M := by
  intro H locs lsA hR hs hl hL
  obtain ⟨hb, hs⟩ := mOkS_c.mp hs
  obtain ⟨ha, hs⟩ := mOkS_c.mp hs
  refine lv_isub (x := Int32.ofInt a) (y := Int32.ofInt b) cx.1 cx.2.1 hd ?_
  rw [o32_sub]
  exact k H locs lsA hR (mOkS_c.mpr ⟨w32_w32 _, hs⟩) hl hL
theorem ms_imul (cx : mCx p s m args meth c o kind bs ml D cA ad base) {a b : Int} (hd : decode bs pc = .ok (.imul, 1)) (k : mG p l e R s m args below meth c Q D cA ad base n0 s0 ml (pc + 1) ls (mI (w32 (a * b)) :: st) M) : mG p l e R s m args below meth c Q D cA ad base n0 s0 ml pc ls (mI b :: mI a :: st) M := by
  intro H locs lsA hR hs hl hL
  obtain ⟨hb, hs⟩ := mOkS_c.mp hs
  obtain ⟨ha, hs⟩ := mOkS_c.mp hs
  refine lv_imul (x := Int32.ofInt a) (y := Int32.ofInt b) cx.1 cx.2.1 hd ?_
  rw [o32_mul]
  exact k H locs lsA hR (mOkS_c.mpr ⟨w32_w32 _, hs⟩) hl hL
theorem ms_iand (cx : mCx p s m args meth c o kind bs ml D cA ad base) {a b : Int} (hd : decode bs pc = .ok (.iand, 1)) (k : mG p l e R s m args below meth c Q D cA ad base n0 s0 ml (pc + 1) ls (mI (iAnd a b) :: st) M) : mG p l e R s m args below meth c Q D cA ad base n0 s0 ml pc ls (mI b :: mI a :: st) M := by
  intro H locs lsA hR hs hl hL
  obtain ⟨hb, hs⟩ := mOkS_c.mp hs
  obtain ⟨ha, hs⟩ := mOkS_c.mp hs
  refine lv_iand (x := Int32.ofInt a) (y := Int32.ofInt b) cx.1 cx.2.1 hd ?_
  have k' := k H locs lsA hR (mOkS_c.mpr ⟨t32_w32 _, hs⟩) hl hL
  simp only [List.map_cons, mCv, iAnd, o32_t] at k'
  exact k'
theorem ms_ior (cx : mCx p s m args meth c o kind bs ml D cA ad base) {a b : Int} (hd : decode bs pc = .ok (.ior, 1)) (k : mG p l e R s m args below meth c Q D cA ad base n0 s0 ml (pc + 1) ls (mI (iOr a b) :: st) M) : mG p l e R s m args below meth c Q D cA ad base n0 s0 ml pc ls (mI b :: mI a :: st) M := by
  intro H locs lsA hR hs hl hL
  obtain ⟨hb, hs⟩ := mOkS_c.mp hs
  obtain ⟨ha, hs⟩ := mOkS_c.mp hs
  refine lv_ior (x := Int32.ofInt a) (y := Int32.ofInt b) cx.1 cx.2.1 hd ?_
  have k' := k H locs lsA hR (mOkS_c.mpr ⟨t32_w32 _, hs⟩) hl hL
  simp only [List.map_cons, mCv, iOr, o32_t] at k'
  exact k'
theorem ms_ixor (cx : mCx p s m args meth c o kind bs ml D cA ad base) {a b : Int} (hd : decode bs pc = .ok (.ixor, 1)) (k : mG p l e R s m args below meth c Q D cA ad base n0 s0 ml (pc + 1) ls (mI (iXor a b) :: st) M) : mG p l e R s m args below meth c Q D cA ad base n0 s0 ml pc ls (mI b :: mI a :: st) M := by
  intro H locs lsA hR hs hl hL
  obtain ⟨hb, hs⟩ := mOkS_c.mp hs
  obtain ⟨ha, hs⟩ := mOkS_c.mp hs
  refine lv_ixor (x := Int32.ofInt a) (y := Int32.ofInt b) cx.1 cx.2.1 hd ?_
  have k' := k H locs lsA hR (mOkS_c.mpr ⟨t32_w32 _, hs⟩) hl hL
  simp only [List.map_cons, mCv, iXor, o32_t] at k'
  exact k'
theorem ms_ishl (cx : mCx p s m args meth c o kind bs ml D cA ad base) {a b : Int} (hd : decode bs pc = .ok (.ishl, 1)) (k : mG p l e R s m args below meth c Q D cA ad base n0 s0 ml (pc + 1) ls (mI (iShl a b) :: st) M) : mG p l e R s m args below meth c Q D cA ad base n0 s0 ml pc ls (mI b :: mI a :: st) M := by
  intro H locs lsA hR hs hl hL
  obtain ⟨hb, hs⟩ := mOkS_c.mp hs
  obtain ⟨ha, hs⟩ := mOkS_c.mp hs
  refine lv_ishl (x := Int32.ofInt a) (y := Int32.ofInt b) cx.1 cx.2.1 hd ?_
  have k' := k H locs lsA hR (mOkS_c.mpr ⟨t32_w32 _, hs⟩) hl hL
  simp only [List.map_cons, mCv, iShl, o32_t] at k'
  exact k'
theorem ms_ishr (cx : mCx p s m args meth c o kind bs ml D cA ad base) {a b : Int} (hd : decode bs pc = .ok (.ishr, 1)) (k : mG p l e R s m args below meth c Q D cA ad base n0 s0 ml (pc + 1) ls (mI (iShr a b) :: st) M) : mG p l e R s m args below meth c Q D cA ad base n0 s0 ml pc ls (mI b :: mI a :: st) M := by
  intro H locs lsA hR hs hl hL
  obtain ⟨hb, hs⟩ := mOkS_c.mp hs
  obtain ⟨ha, hs⟩ := mOkS_c.mp hs
  refine lv_ishr (x := Int32.ofInt a) (y := Int32.ofInt b) cx.1 cx.2.1 hd ?_
  have k' := k H locs lsA hR (mOkS_c.mpr ⟨t32_w32 _, hs⟩) hl hL
  simp only [List.map_cons, mCv, iShr, o32_t] at k'
  exact k'
theorem ms_iushr (cx : mCx p s m args meth c o kind bs ml D cA ad base) {a b : Int} (hd : decode bs pc = .ok (.iushr, 1)) (k : mG p l e R s m args below meth c Q D cA ad base n0 s0 ml (pc + 1) ls (mI (iUshr a b) :: st) M) : mG p l e R s m args below meth c Q D cA ad base n0 s0 ml pc ls (mI b :: mI a :: st) M := by
  intro H locs lsA hR hs hl hL
  obtain ⟨hb, hs⟩ := mOkS_c.mp hs
  obtain ⟨ha, hs⟩ := mOkS_c.mp hs
  refine lv_iushr (x := Int32.ofInt a) (y := Int32.ofInt b) cx.1 cx.2.1 hd rfl ?_
  have k' := k H locs lsA hR (mOkS_c.mpr ⟨t32_w32 _, hs⟩) hl hL
  simp only [List.map_cons, mCv, iUshr, o32_t] at k'
  exact k'
theorem ms_idiv (cx : mCx p s m args meth c o kind bs ml D cA ad base) {a b : Int} (h0 : ¬ b = 0) (hd : decode bs pc = .ok (.idiv, 1)) (k : mG p l e R s m args below meth c Q D cA ad base n0 s0 ml (pc + 1) ls (mI (iDiv a b) :: st) M) : mG p l e R s m args below meth c Q D cA ad base n0 s0 ml pc ls (mI b :: mI a :: st) M := by
  intro H locs lsA hR hs hl hL
  obtain ⟨hb, hs⟩ := mOkS_c.mp hs
  obtain ⟨ha, hs⟩ := mOkS_c.mp hs
  refine lv_idiv (x := Int32.ofInt a) (y := Int32.ofInt b) cx.1 cx.2.1 hd (fun h => h0 ((o32_eq hb w32_0).mp h)) ?_
  have k' := k H locs lsA hR (mOkS_c.mpr ⟨t32_w32 _, hs⟩) hl hL
  simp only [List.map_cons, mCv, iDiv, o32_t] at k'
  exact k'
theorem ms_irem (cx : mCx p s m args meth c o kind bs ml D cA ad base) {a b : Int} (h0 : ¬ b = 0) (hd : decode bs pc = .ok (.irem, 1)) (k : mG p l e R s m args below meth c Q D cA ad base n0 s0 ml (pc + 1) ls (mI (iRem a b) :: st) M) : mG p l e R s m args below meth c Q D cA ad base n0 s0 ml pc ls (mI b :: mI a :: st) M := by
  intro H locs lsA hR hs hl hL
  obtain ⟨hb, hs⟩ := mOkS_c.mp hs
  obtain ⟨ha, hs⟩ := mOkS_c.mp hs
  refine lv_irem (x := Int32.ofInt a) (y := Int32.ofInt b) cx.1 cx.2.1 hd (fun h => h0 ((o32_eq hb w32_0).mp h)) ?_
  have k' := k H locs lsA hR (mOkS_c.mpr ⟨t32_w32 _, hs⟩) hl hL
  simp only [List.map_cons, mCv, iRem, o32_t] at k'
  exact k'
theorem ms_ladd (cx : mCx p s m args meth c o kind bs ml D cA ad base) {a b : Int} (hd : decode bs pc = .ok (.ladd, 1)) (k : mG p l e R s m args below meth c Q D cA ad base n0 s0 ml (pc + 1) ls (mJ (w64 (a + b)) :: st) M) : mG p l e R s m args below meth c Q D cA ad base n0 s0 ml pc ls (mJ b :: mJ a :: st) M := by
  intro H locs lsA hR hs hl hL
  obtain ⟨hb, hs⟩ := mOkS_c.mp hs
  obtain ⟨ha, hs⟩ := mOkS_c.mp hs
  refine lv_ladd (x := Int64.ofInt a) (y := Int64.ofInt b) cx.1 cx.2.1 hd ?_
  rw [o64_add]
  exact k H locs lsA hR (mOkS_c.mpr ⟨w64_w64 _, hs⟩) hl hL
theorem ms_lsub (cx : mCx p s m args meth c o kind bs ml D cA ad base) {a b : Int} (hd : decode bs pc = .ok (.lsub, 1)) (k : mG p l e R s m args below meth c Q D cA ad base n0 s0 ml (pc + 1) ls (mJ (w64 (a - b)) :: st) M) : mG p l e R s m args below meth c Q D cA ad base n0 s0 ml pc ls (mJ b :: mJ a :: st) M := by
  intro H locs lsA hR hs hl hL
  obtain ⟨hb, hs⟩ := mOkS_c.mp hs
  obtain ⟨ha, hs⟩ := mOkS_c.mp hs
  refine lv_lsub (x := Int64.ofInt a) (y := Int64.ofInt b) cx.1 cx.2.1 hd ?_
  rw [o64_sub]
  exact k H locs lsA hR (mOkS_c.mpr ⟨w64_w64 _, hs⟩) hl hL
theorem ms_lmul (cx : mCx p s m args meth c o kind bs ml D cA ad base) {a b : Int} (hd : decode bs pc = .ok (.lmul, 1)) (k : mG p l e R s m args below meth c Q D cA ad base n0 s0 ml (pc + 1) ls (mJ (w64 (a * b)) :: st) M) : mG p l e R s m args below meth c Q D cA ad base n0 s0 ml pc ls (mJ b :: mJ a :: st) M := by
  intro H locs lsA hR hs hl hL
  obtain ⟨hb, hs⟩ := mOkS_c.mp hs
  obtain ⟨ha, hs⟩ := mOkS_c.mp hs
  refine lv_lmul (x := Int64.ofInt a) (y := Int64.ofInt b) cx.1 cx.2.1 hd ?_
  rw [o64_mul]
  exact k H locs lsA hR (mOkS_c.mpr ⟨w64_w64 _, hs⟩) hl hL
theorem ms_land (cx : mCx p s m args meth c o kind bs ml D cA ad base) {a b : Int} (hd : decode bs pc = .ok (.land, 1)) (k : mG p l e R s m args below meth c Q D cA ad base n0 s0 ml (pc + 1) ls (mJ (lAnd a b) :: st) M) : mG p l e R s m args below meth c Q D cA ad base n0 s0 ml pc ls (mJ b :: mJ a :: st) M := by
  intro H locs lsA hR hs hl hL
  obtain ⟨hb, hs⟩ := mOkS_c.mp hs
  obtain ⟨ha, hs⟩ := mOkS_c.mp hs
  refine lv_land (x := Int64.ofInt a) (y := Int64.ofInt b) cx.1 cx.2.1 hd ?_
  have k' := k H locs lsA hR (mOkS_c.mpr ⟨t64_w64 _, hs⟩) hl hL
  simp only [List.map_cons, mCv, lAnd, o64_t] at k'
  exact k'
theorem ms_ldiv (cx : mCx p s m args meth c o kind bs ml D cA ad base) {a b : Int} (h0 : ¬ b = 0) (hd : decode bs pc = .ok (.ldiv, 1)) (k : mG p l e R s m args below meth c Q D cA ad base n0 s0 ml (pc + 1) ls (mJ (lDiv a b) :: st) M) : mG p l e R s m args below meth c Q D cA ad base n0 s0 ml pc ls (mJ b :: mJ a :: st) M := by
  intro H locs lsA hR hs hl hL
  obtain ⟨hb, hs⟩ := mOkS_c.mp hs
  obtain ⟨ha, hs⟩ := mOkS_c.mp hs
  refine lv_ldiv (x := Int64.ofInt a) (y := Int64.ofInt b) cx.1 cx.2.1 hd (fun h => h0 ((o64_eq hb (by decide)).mp h)) ?_
  have k' := k H locs lsA hR (mOkS_c.mpr ⟨t64_w64 _, hs⟩) hl hL
  simp only [List.map_cons, mCv, lDiv, o64_t] at k'
  exact k'
theorem ms_lrem (cx : mCx p s m args meth c o kind bs ml D cA ad base) {a b : Int} (h0 : ¬ b = 0) (hd : decode bs pc = .ok (.lrem, 1)) (k : mG p l e R s m args below meth c Q D cA ad base n0 s0 ml (pc + 1) ls (mJ (lRem a b) :: st) M) : mG p l e R s m args below meth c Q D cA ad base n0 s0 ml pc ls (mJ b :: mJ a :: st) M := by
  intro H locs lsA hR hs hl hL
  obtain ⟨hb, hs⟩ := mOkS_c.mp hs
  obtain ⟨ha, hs⟩ := mOkS_c.mp hs
  refine lv_lrem (x := Int64.ofInt a) (y := Int64.ofInt b) cx.1 cx.2.1 hd (fun h => h0 ((o64_eq hb (by decide)).mp h)) ?_
  have k' := k H locs lsA hR (mOkS_c.mpr ⟨t64_w64 _, hs⟩) hl hL
  simp only [List.map_cons, mCv, lRem, o64_t] at k'
  exact k'
theorem cmp_ok (a b : Int) : w32 (if a < b then -1 else if a = b then 0 else 1) = (if a < b then -1 else if a = b then 0 else 1) := by
  split
  · decide
  · split <;> decide
theorem ms_lcmp (cx : mCx p s m args meth c o kind bs ml D cA ad base) {a b : Int} (hd : decode bs pc = .ok (.lcmp, 1)) (k : mG p l e R s m args below meth c Q D cA ad base n0 s0 ml (pc + 1) ls (mI (if a < b then -1 else if a = b then 0 else 1) :: st) M) : mG p l e R s m args below meth c Q D cA ad base n0 s0 ml pc ls (mJ b :: mJ a :: st) M := by
  intro H locs lsA hR hs hl hL
  obtain ⟨hb, hs⟩ := mOkS_c.mp hs
  obtain ⟨ha, hs⟩ := mOkS_c.mp hs
  refine W.lcmp (x := Int64.ofInt a) (y := Int64.ofInt b) cx.1 cx.2.1 hd ?_
  rw [o64_cmp ha hb]
  exact k H locs lsA hR (mOkS_c.mpr ⟨cmp_ok a b, hs⟩) hl hL
theorem ms_i2l (cx : mCx p s m args meth c o kind bs ml D cA ad base) {a : Int} (hd : decode bs pc = .ok (.i2l, 1)) (k : mG p l e R s m args below meth c Q D cA ad base n0 s0 ml (pc + 1) ls (mJ a :: st) M) : mG p l e R s m args below meth c Q D cA ad base n0 s0 ml pc ls (mI a :: st) M := by
  intro H locs lsA hR hs hl hL
  obtain ⟨ha, hs⟩ := mOkS_c.mp hs
  exact lv_i2l (x := Int32.ofInt a) cx.1 cx.2.1 hd (o32_i2l ha) (k H locs lsA hR (mOkS_c.mpr ⟨w64_w32 ha, hs⟩) hl hL)
theorem ms_l2i (cx : mCx p s m args meth c o kind bs ml D cA ad base) {a : Int} (hd : decode bs pc = .ok (.l2i, 1)) (k : mG p l e R s m args below meth c Q D cA ad base n0 s0 ml (pc + 1) ls (mI (l2i a) :: st) M) : mG p l e R s m args below meth c Q D cA ad base n0 s0 ml pc ls (mJ a :: st) M := by
  intro H locs lsA hR hs hl hL
  obtain ⟨ha, hs⟩ := mOkS_c.mp hs
  have k' := k H locs lsA hR (mOkS_c.mpr ⟨t32_w32 _, hs⟩) hl hL
  simp only [List.map_cons, mCv, l2i, o32_t] at k'
  exact lv_l2i (x := Int64.ofInt a) cx.1 cx.2.1 hd rfl k'
theorem ms_dup (cx : mCx p s m args meth c o kind bs ml D cA ad base) {v : mV} (h1 : mIs v ≠ 1) (hd : decode bs pc = .ok (.dup, 1)) (k : mG p l e R s m args below meth c Q D cA ad base n0 s0 ml (pc + 1) ls (v :: v :: st) M) : mG p l e R s m args below meth c Q D cA ad base n0 s0 ml pc ls (v :: st) M := by
  intro H locs lsA hR hs hl hL
  exact lv_dup cx.1 cx.2.1 hd (mCat1 h1) (k H locs lsA hR (mOkS_c.mpr ⟨(mOkS_c.mp hs).1, hs⟩) hl hL)
theorem ms_pop (cx : mCx p s m args meth c o kind bs ml D cA ad base) {v : mV} (h1 : mIs v ≠ 1) (hd : decode bs pc = .ok (.pop, 1)) (k : mG p l e R s m args below meth c Q D cA ad base n0 s0 ml (pc + 1) ls st M) : mG p l e R s m args below meth c Q D cA ad base n0 s0 ml pc ls (v :: st) M := by
  intro H locs lsA hR hs hl hL
  exact lv_pop cx.1 cx.2.1 hd (mCat1 h1) (k H locs lsA hR (mOkS_c.mp hs).2 hl hL)
theorem ms_dup2 (cx : mCx p s m args meth c o kind bs ml D cA ad base) {v w : mV} (h1 : mIs v ≠ 1) (h2 : mIs w ≠ 1) (hd : decode bs pc = .ok (.dup2, 1)) (k : mG p l e R s m args below meth c Q D cA ad base n0 s0 ml (pc + 1) ls (v :: w :: v :: w :: st) M) : mG p l e R s m args below meth c Q D cA ad base n0 s0 ml pc ls (v :: w :: st) M := by
  intro H locs lsA hR hs hl hL
  obtain ⟨hv, hs1⟩ := mOkS_c.mp hs
  obtain ⟨hw, hs2⟩ := mOkS_c.mp hs1
  exact lv_dup2_11 cx.1 cx.2.1 hd (mCat1 h1) (mCat1 h2) (k H locs lsA hR (mOkS_c.mpr ⟨hv, mOkS_c.mpr ⟨hw, hs⟩⟩) hl hL)
theorem ms_goto (cx : mCx p s m args meth c o kind bs ml D cA ad base) {off : Int} {tgt : Nat} (ht : (pc : Int) + off = tgt) (hd : decode bs pc = .ok (.goto off, 3)) (k : mG p l e R s m args below meth c Q D cA ad base n0 s0 ml tgt ls st M) : mG p l e R s m args below meth c Q D cA ad base n0 s0 ml pc ls st M :=
  fun H locs lsA hR hs hl hL => lv_goto cx.1 cx.2.1 hd ht (k H locs lsA hR hs hl hL)
theorem ms_icmp_eq (cx : mCx p s m args meth c o kind bs ml D cA ad base) {a b : Int} {off : Int} {tgt : Nat} (ht : (pc : Int) + off = tgt) (hd : decode bs pc = .ok (.if_icmp .eq off, 3)) (kt : a = b → mG p l e R s m args below meth c Q D cA ad base n0 s0 ml tgt ls st M) (kf : ¬ a = b → mG p l e R s m args below meth c Q D cA ad base n0 s0 ml (pc + 3) ls st M) : mG p l e R s m args below meth c Q D cA ad base n0 s0 ml pc ls (mI b :: mI a :: st) M := by
  intro H locs lsA hR hs hl hL
  obtain ⟨hb, hs⟩ := mOkS_c.mp hs
  obtain ⟨ha, hs⟩ := mOkS_c.mp hs
  exact lv_icmp_eq (x := Int32.ofInt a) (y := Int32.ofInt b) cx.1 cx.2.1 hd ht (fun h => kt ((o32_eq ha hb).mp h) H locs lsA hR hs hl hL) (fun h => kf (fun q => h ((o32_eq ha hb).mpr q)) H locs lsA hR hs hl hL)
theorem ms_if_eq (cx : mCx p s m args meth c o kind bs ml D cA ad base) {a : Int} {off : Int} {tgt : Nat} (ht : (pc : Int) + off = tgt) (hd : decode bs pc = .ok (.ifCond .eq off, 3)) (kt : a = 0 → mG p l e R s m args below meth c Q D cA ad base n0 s0 ml tgt ls st M) (kf : ¬ a = 0 → mG p l e R s m args below meth c Q D cA ad base n0 s0 ml (pc + 3) ls st M) : mG p l e R s m args below meth c Q D cA ad base n0 s0 ml pc ls (mI a :: st) M := by
  intro H locs lsA hR hs hl hL
  obtain ⟨ha, hs⟩ := mOkS_c.mp hs
  have hb : w32 0 = 0 := w32_0
  exact lv_if_eq (x := Int32.ofInt a) cx.1 cx.2.1 hd ht (fun h => kt ((o32_eq ha hb).mp h) H locs lsA hR hs hl hL) (fun h => kf (fun q => h ((o32_eq ha hb).mpr q)) H locs lsA hR hs hl hL)
theorem ms_icmp_ne (cx : mCx p s m args meth c o kind bs ml D cA ad base) {a b : Int} {off : Int} {tgt : Nat} (ht : (pc : Int) + off = tgt) (hd : decode bs pc = .ok (.if_icmp .ne off, 3)) (kt : ¬ a = b → mG p l e R s m args below meth c Q D cA ad base n0 s0 ml tgt ls st M) (kf : a = b → mG p l e R s m args below meth c Q D cA ad base n0 s0 ml (pc + 3) ls st M) : mG p l e R s m args below meth c Q D cA ad base n0 s0 ml pc ls (mI b :: mI a :: st) M := by
  intro H locs lsA hR hs hl hL
  obtain ⟨hb, hs⟩ := mOkS_c.mp hs
  obtain ⟨ha, hs⟩ := mOkS_c.mp hs
  exact lv_icmp_ne (x := Int32.ofInt a) (y := Int32.ofInt b) cx.1 cx.2.1 hd ht (fun h => kt (fun q => h ((o32_eq ha hb).mpr q)) H locs lsA hR hs hl hL) (fun h => kf ((o32_eq ha hb).mp h) H locs lsA hR hs hl hL)
theorem ms_if_ne (cx : mCx p s m args meth c o kind bs ml D cA ad base) {a : Int} {off : Int} {tgt : Nat} (ht : (pc : Int) + off = tgt) (hd : decode bs pc = .ok (.ifCond .ne off, 3)) (kt : ¬ a = 0 → mG p l e R s m args below meth c Q D cA ad base n0 s0 ml tgt ls st M) (kf : a = 0 → mG p l e R s m args below meth c Q D cA ad base n0 s0 ml (pc + 3) ls st M) : mG p l e R s m args below meth c Q D cA ad base n0 s0 ml pc ls (mI a :: st) M := by
  intro H locs lsA hR hs hl hL
  obtain ⟨ha, hs⟩ := mOkS_c.mp hs
  have hb : w32 0 = 0 := w32_0
  exact lv_if_ne (x := Int32.ofInt a) cx.1 cx.2.1 hd ht (fun h => kt (fun q => h ((o32_eq ha hb).mpr q)) H locs lsA hR hs hl hL) (fun h => kf ((o32_eq ha hb).mp h) H locs lsA hR hs hl hL)
theorem ms_icmp_lt (cx : mCx p s m args meth c o kind bs ml D cA ad base) {a b : Int} {off : Int} {tgt : Nat} (ht : (pc : Int) + off = tgt) (hd : decode bs pc = .ok (.if_icmp .lt off, 3)) (kt : a < b → mG p l e R s m args below meth c Q D cA ad base n0 s0 ml tgt ls st M) (kf : ¬ a < b → mG p l e R s m args below meth c Q D cA ad base n0 s0 ml (pc + 3) ls st M) : mG p l e R s m args below meth c Q D cA ad base n0 s0 ml pc ls (mI b :: mI a :: st) M := by
  intro H locs lsA hR hs hl hL
  obtain ⟨hb, hs⟩ := mOkS_c.mp hs
  obtain ⟨ha, hs⟩ := mOkS_c.mp hs
  exact lv_icmp_lt (x := Int32.ofInt a) (y := Int32.ofInt b) cx.1 cx.2.1 hd ht (fun h => kt ((o32_lt ha hb).mp h) H locs lsA hR hs hl hL) (fun h => kf (fun q => h ((o32_lt ha hb).mpr q)) H locs lsA hR hs hl hL)
theorem ms_if_lt (cx : mCx p s m args meth c o kind bs ml D cA ad base) {a : Int} {off : Int} {tgt : Nat} (ht : (pc : Int) + off = tgt) (hd : decode bs pc = .ok (.ifCond .lt off, 3)) (kt : a < 0 → mG p l e R s m args below meth c Q D cA ad base n0 s0 ml tgt ls st M) (kf : ¬ a < 0 → mG p l e R s m args below meth c Q D cA ad base n0 s0 ml (pc + 3) ls st M) : mG p l e R s m args below meth c Q D cA ad base n0 s0 ml pc ls (mI a :: st) M := by
  intro H locs lsA hR hs hl hL
  obtain ⟨ha, hs⟩ := mOkS_c.mp hs
  have hb : w32 0 = 0 := w32_0
  exact lv_if_lt (x := Int32.ofInt a) cx.1 cx.2.1 hd ht (fun h => kt ((o32_lt ha hb).mp h) H locs lsA hR hs hl hL) (fun h => kf (fun q => h ((o32_lt ha hb).mpr q)) H locs lsA hR hs hl hL)
theorem ms_icmp_ge (cx : mCx p s m args meth c o kind bs ml D cA ad base) {a b : Int} {off : Int} {tgt : Nat} (ht : (pc : Int) + off = tgt) (hd : decode bs pc = .ok (.if_icmp .ge off, 3)) (kt : ¬ a < b → mG p l e R s m args below meth c Q D cA ad base n0 s0 ml tgt ls st M) (kf : a < b → mG p l e R s m args below meth c Q D cA ad base n0 s0 ml (pc + 3) ls st M) : mG p l e R s m args below meth c Q D cA ad base n0 s0 ml pc ls (mI b :: mI a :: st) M := by
  intro H locs lsA hR hs hl hL
  obtain ⟨hb, hs⟩ := mOkS_c.mp hs
  obtain ⟨ha, hs⟩ := mOkS_c.mp hs
  exact lv_icmp_ge (x := Int32.ofInt a) (y := Int32.ofInt b) cx.1 cx.2.1 hd ht (fun h => kt (Int.not_lt.mpr ((o32_le hb ha).mp h)) H locs lsA hR hs hl hL) (fun h => kf (Int.not_le.mp (fun q => h ((o32_le hb ha).mpr q))) H locs lsA hR hs hl hL)
theorem ms_if_ge (cx : mCx p s m args meth c o kind bs ml D cA ad base) {a : Int} {off : Int} {tgt : Nat} (ht : (pc : Int) + off = tgt) (hd : decode bs pc = .ok (.ifCond .ge off, 3)) (kt : ¬ a < 0 → mG p l e R s m args below meth c Q D cA ad base n0 s0 ml tgt ls st M) (kf : a < 0 → mG p l e R s m args below meth c Q D cA ad base n0 s0 ml (pc + 3) ls st M) : mG p l e R s m args below meth c Q D cA ad base n0 s0 ml pc ls (mI a :: st) M := by
  intro H locs lsA hR hs hl hL
  obtain ⟨ha, hs⟩ := mOkS_c.mp hs
  have hb : w32 0 = 0 := w32_0
  exact lv_if_ge (x := Int32.ofInt a) cx.1 cx.2.1 hd ht (fun h => kt (Int.not_lt.mpr ((o32_le hb ha).mp h)) H locs lsA hR hs hl hL) (fun h => kf (Int.not_le.mp (fun q => h ((o32_le hb ha).mpr q))) H locs lsA hR hs hl hL)
theorem ms_icmp_gt (cx : mCx p s m args meth c o kind bs ml D cA ad base) {a b : Int} {off : Int} {tgt : Nat} (ht : (pc : Int) + off = tgt) (hd : decode bs pc = .ok (.if_icmp .gt off, 3)) (kt : b < a → mG p l e R s m args below meth c Q D cA ad base n0 s0 ml tgt ls st M) (kf : ¬ b < a → mG p l e R s m args below meth c Q D cA ad base n0 s0 ml (pc + 3) ls st M) : mG p l e R s m args below meth c Q D cA ad base n0 s0 ml pc ls (mI b :: mI a :: st) M := by
  intro H locs lsA hR hs hl hL
  obtain ⟨hb, hs⟩ := mOkS_c.mp hs
  obtain ⟨ha, hs⟩ := mOkS_c.mp hs
  exact lv_icmp_gt (x := Int32.ofInt a) (y := Int32.ofInt b) cx.1 cx.2.1 hd ht (fun h => kt ((o32_lt hb ha).mp h) H locs lsA hR hs hl hL) (fun h => kf (fun q => h ((o32_lt hb ha).mpr q)) H locs lsA hR hs hl hL)
theorem ms_if_gt (cx : mCx p s m args meth c o kind bs ml D cA ad base) {a : Int} {off : Int} {tgt : Nat} (ht : (pc : Int) + off = tgt) (hd : decode bs pc = .ok (.ifCond .gt off, 3)) (kt : 0 < a → mG p l e R s m args below meth c Q D cA ad base n0 s0 ml tgt ls st M) (kf : ¬ 0 < a → mG p l e R s m args below meth c Q D cA ad base n0 s0 ml (pc + 3) ls st M) : mG p l e R s m args below meth c Q D cA ad base n0 s0 ml pc ls (mI a :: st) M := by
  intro H locs lsA hR hs hl hL
  obtain ⟨ha, hs⟩ := mOkS_c.mp hs
  have hb : w32 0 = 0 := w32_0
  exact lv_if_gt (x := Int32.ofInt a) cx.1 cx.2.1 hd ht (fun h => kt ((o32_lt hb ha).mp h) H locs lsA hR hs hl hL) (fun h => kf (fun q => h ((o32_lt hb ha).mpr q)) H locs lsA hR hs hl hL)
theorem ms_icmp_le (cx : mCx p s m args meth c o kind bs ml D cA ad base) {a b : Int} {off : Int} {tgt : Nat} (ht : (pc : Int) + off = tgt) (hd : decode bs pc = .ok (.if_icmp .le off, 3)) (kt : ¬ b < a → mG p l e R s m args below meth c Q D cA ad base n0 s0 ml tgt ls st M) (kf : b < a → mG p l e R s m args below meth c Q D cA ad base n0 s0 ml (pc + 3) ls st M) : mG p l e R s m args below meth c Q D cA ad base n0 s0 ml pc ls (mI b :: mI a :: st) M := by
  intro H locs lsA hR hs hl hL
  obtain ⟨hb, hs⟩ := mOkS_c.mp hs
  obtain ⟨ha, hs⟩ := mOkS_c.mp hs
  exact lv_icmp_le (x := Int32.ofInt a) (y := Int32.ofInt b) cx.1 cx.2.1 hd ht (fun h => kt (Int.not_lt.mpr ((o32_le ha hb).mp h)) H locs lsA hR hs hl hL) (fun h => kf (Int.not_le.mp (fun q => h ((o32_le ha hb).mpr q))) H locs lsA hR hs hl hL)
theorem ms_if_le (cx : mCx p s m args meth c o kind bs ml D cA ad base) {a : Int} {off : Int} {tgt : Nat} (ht : (pc : Int) + off = tgt) (hd : decode bs pc = .ok (.ifCond .le off, 3)) (kt : ¬ 0 < a → mG p l e R s m args below meth c Q D cA ad base n0 s0 ml tgt ls st M) (kf : 0 < a → mG p l e R s m args below meth c Q D cA ad base n0 s0 ml (pc + 3) ls st M) : mG p l e R s m args below meth c Q D cA ad base n0 s0 ml pc ls (mI a :: st) M := by
  intro H locs lsA hR hs hl hL
  obtain ⟨ha, hs⟩ := mOkS_c.mp hs
  have hb : w32 0 = 0 := w32_0
  exact lv_if_le (x := Int32.ofInt a) cx.1 cx.2.1 hd ht (fun h => kt (Int.not_lt.mpr ((o32_le ha hb).mp h)) H locs lsA hR hs hl hL) (fun h => kf (Int.not_le.mp (fun q => h ((o32_le ha hb).mpr q))) H locs lsA hR hs hl hL)
end MS2
