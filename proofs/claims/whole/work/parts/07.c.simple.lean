/-! ===== one instruction at a time: those that leave the cells alone ===== -/
def mGW : List Cond := lw_tbl.filter goodWord
def mNest (w : Cond) : Bool := match w with
  | .fieldLinkNest _ _ _ _ _ _ => true
  | .methodLinkNest _ _ _ _ => true
  | _ => false
def mAd (base : Nat) : Nat → Prop := fun q => base ≤ q
def xBytes : List Int32 := xWords.map Int32.ofInt
/-- what lies outside: two static rows, the text of the own words -/
def mExt (ad : Nat → Nat) (base : Nat) (s : State) : Prop :=
  va_Z "TenthMan" "MOST" "[I" (.ref (ad 1000)) (mAd base) s s.heap ∧ va_T .int (ad 1000) 4 (fun j => .int (Int32.ofInt (xMost.getD j 0))) (mAd base) s s.heap ∧
  va_Z "TenthMan" "NAMED" "[I" (.ref (ad 1001)) (mAd base) s s.heap ∧ va_T .int (ad 1001) 3 (fun j => .int (Int32.ofInt (xNamed.getD j 0))) (mAd base) s s.heap ∧
  vk_R "TenthMan$Reader" 199 "room  man   lets  bribe tires gate  by    personat    to    coins tact  hour  passedwho   day   or    and   not   all   min   max   " (ad 1002) s ∧
  (∃ adV : Nat → Nat, vk_S 1 [132] [xBytes] (fun _ => ad 1002) adV (mAd base) s s.heap) ∧ va_Z "java/lang/String" "COMPACT_STRINGS" "Z" (.int 1) (mAd base) s s.heap ∧
  va_Zq "jdk/internal/util/Preconditions" "SIOOBE_FORMATTER" "Ljava/util/function/BiFunction;" (mAd base) s s.heap ∧ va_AOA .int s
def mCx (p : Program) (s : State) (m : MethodId) (args : Array Value) (meth : Method) (c : Code) (o kind : Nat) (bs : ByteArray) (ml : Nat) (D : va_G) (cA : Nat → ClassId) (ad : Nat → Nat) (base : Nat) : Prop :=
  p.tables.exec = Jvm.exec ∧ c.code = bs ∧ c.maxLocals = ml ∧ s.vm.findClass (mCN o) = some m.cls ∧ (∀ w ∈ mGW, w.before args s = true) ∧ (∀ w ∈ lw_tbl, mNest w = true → va_Nw w s) ∧ va_K D vwCl (mTys cA) s ∧ (kind = 2 → meth.name = "<init>") ∧ mExt ad base s
def mRel (D : va_G) (cA : Nat → ClassId) (ad : Nat → Nat) (base n0 s0 : Nat) (s : State) (M : mMem) (H : Heap) (locs : List Loc) : Prop :=
  n0 ≤ M.1.length ∧ s0 ≤ mSl M ∧ mShOk M ∧ mOkM M ∧ va_P D vwCl (mWl ad cA M) H ∧ va_D (mAd base) (mWl ad cA M) ∧ va_S (mAd base) s.heap H locs
def mG (p : Program) (l : Launch) (e : Env) (R : Room) (s : State) (m : MethodId) (args : Array Value) (below : List Frame) (meth : Method) (c : Code) (Q : State → Prop) (D : va_G) (cA : Nat → ClassId) (ad : Nat → Nat) (base n0 s0 ml : Nat) (pc : Nat) (ls : mLs) (st : List mV) (M : mMem) : Prop :=
  ∀ (H : Heap) (locs : List Loc) (lsA : Array Slot), mRel D cA ad base n0 s0 s M H locs → mOkS st → mOkL ls → mLR ad lsA ls ml → W p l e R s m args below meth c H locs (M.1.length - n0) (mSl M - s0) Q (F0 m pc lsA (st.map (mCv ad)))
section MS
variable {p : Program} {l : Launch} {e : Env} {R : Room} {s : State} {m : MethodId} {args : Array Value} {below : List Frame} {meth : Method} {c : Code} {Q : State → Prop} {D : va_G} {cA : Nat → ClassId} {ad : Nat → Nat} {base n0 s0 ml o kind : Nat} {bs : ByteArray} {pc : Nat} {ls : mLs} {st : List mV} {M : mMem}
theorem ms_iconst (cx : mCx p s m args meth c o kind bs ml D cA ad base) {i : Int} (hi : w32 i = i) (hd : decode bs pc = .ok (.iconst i, 1)) (k : mG p l e R s m args below meth c Q D cA ad base n0 s0 ml (pc + 1) ls (mI i :: st) M) : mG p l e R s m args below meth c Q D cA ad base n0 s0 ml pc ls st M :=
  fun H locs lsA hR hs hl hL => lv_iconst cx.1 cx.2.1 hd rfl (k H locs lsA hR (mOkS_c.mpr ⟨hi, hs⟩) hl hL)
theorem ms_bipush (cx : mCx p s m args meth c o kind bs ml D cA ad base) {i : Int} (h2 : (Int8.ofInt i).toInt32 = Int32.ofInt i) (hi : w32 i = i) (hd : decode bs pc = .ok (.bipush i, 2)) (k : mG p l e R s m args below meth c Q D cA ad base n0 s0 ml (pc + 2) ls (mI i :: st) M) : mG p l e R s m args below meth c Q D cA ad base n0 s0 ml pc ls st M :=
  fun H locs lsA hR hs hl hL => lv_bipush cx.1 cx.2.1 hd h2 (k H locs lsA hR (mOkS_c.mpr ⟨hi, hs⟩) hl hL)
theorem ms_sipush (cx : mCx p s m args meth c o kind bs ml D cA ad base) {i : Int} (h2 : (Int16.ofInt i).toInt32 = Int32.ofInt i) (hi : w32 i = i) (hd : decode bs pc = .ok (.sipush i, 3)) (k : mG p l e R s m args below meth c Q D cA ad base n0 s0 ml (pc + 3) ls (mI i :: st) M) : mG p l e R s m args below meth c Q D cA ad base n0 s0 ml pc ls st M :=
  fun H locs lsA hR hs hl hL => lv_sipush cx.1 cx.2.1 hd h2 (k H locs lsA hR (mOkS_c.mpr ⟨hi, hs⟩) hl hL)
theorem fin2_o64 : ∀ i : Fin 2, Int64.ofNat (i : Nat) = Int64.ofInt ((i : Nat) : Int) ∧ w64 ((i : Nat) : Int) = ((i : Nat) : Int) := by decide
theorem ms_lconst (cx : mCx p s m args meth c o kind bs ml D cA ad base) {i : Fin 2} (hd : decode bs pc = .ok (.lconst i, 1)) (k : mG p l e R s m args below meth c Q D cA ad base n0 s0 ml (pc + 1) ls (mJ ((i : Nat) : Int) :: st) M) : mG p l e R s m args below meth c Q D cA ad base n0 s0 ml pc ls st M :=
  fun H locs lsA hR hs hl hL => lv_lconst cx.1 cx.2.1 hd (fin2_o64 i).1 (k H locs lsA hR (mOkS_c.mpr ⟨(fin2_o64 i).2, hs⟩) hl hL)
/-- loads: by the kind of the value -/
theorem ms_loadN (cx : mCx p s m args meth c o kind bs ml D cA ad base) {i : Fin 4} {v : mV} (t : Nat) (hv : ls[(i : Nat)]? = some (some v)) (ht : mIs v = t) (hd : (t = 0 → decode bs pc = .ok (.iload_n i, 1)) ∧ (t = 1 → decode bs pc = .ok (.lload_n i, 1)) ∧ (t = 2 → decode bs pc = .ok (.aload_n i, 1))) (k : mG p l e R s m args below meth c Q D cA ad base n0 s0 ml (pc + 1) ls (v :: st) M) : mG p l e R s m args below meth c Q D cA ad base n0 s0 ml pc ls st M := by
  intro H locs lsA hR hs hl hL
  have k' := k H locs lsA hR (mOkS_c.mpr ⟨hl _ _ hv, hs⟩) hl hL
  have hat := mLR_at hL hv
  match v, ht with
  | Sum.inl x, ht => exact lv_iload_n cx.1 cx.2.1 (hd.1 ht.symm) rfl hat k'
  | Sum.inr (Sum.inl x), ht => exact lv_lload_n cx.1 cx.2.1 (hd.2.1 ht.symm) rfl hat k'
  | Sum.inr (Sum.inr (some a)), ht => exact lv_aload_n cx.1 cx.2.1 (hd.2.2 ht.symm) rfl hat k'
  | Sum.inr (Sum.inr none), ht => exact lv_aload_nN cx.1 cx.2.1 (hd.2.2 ht.symm) rfl hat k'
theorem ms_load (cx : mCx p s m args meth c o kind bs ml D cA ad base) {i : Nat} {v : mV} (t : Nat) (hv : ls[i]? = some (some v)) (ht : mIs v = t) (hd : (t = 0 → decode bs pc = .ok (.iload i, 2)) ∧ (t = 1 → decode bs pc = .ok (.lload i, 2)) ∧ (t = 2 → decode bs pc = .ok (.aload i, 2))) (k : mG p l e R s m args below meth c Q D cA ad base n0 s0 ml (pc + 2) ls (v :: st) M) : mG p l e R s m args below meth c Q D cA ad base n0 s0 ml pc ls st M := by
  intro H locs lsA hR hs hl hL
  have k' := k H locs lsA hR (mOkS_c.mpr ⟨hl _ _ hv, hs⟩) hl hL
  have hat := mLR_at hL hv
  match v, ht with
  | Sum.inl x, ht => exact lv_iload cx.1 cx.2.1 (hd.1 ht.symm) hat k'
  | Sum.inr (Sum.inl x), ht => exact lv_lload cx.1 cx.2.1 (hd.2.1 ht.symm) hat k'
  | Sum.inr (Sum.inr (some a)), ht => exact lv_aload cx.1 cx.2.1 (hd.2.2 ht.symm) hat k'
  | Sum.inr (Sum.inr none), ht => exact lv_aloadN cx.1 cx.2.1 (hd.2.2 ht.symm) hat k'
theorem ms_storeN (cx : mCx p s m args meth c o kind bs ml D cA ad base) {i : Fin 4} {v : mV} (t : Nat) (ht : mIs v = t) (hi : (i : Nat) < ls.length) (hb : mBefore ls i = false) (hd : (t = 0 → decode bs pc = .ok (.istore_n i, 1)) ∧ (t = 2 → decode bs pc = .ok (.astore_n i, 1))) (h1 : t ≠ 1) (k : mG p l e R s m args below meth c Q D cA ad base n0 s0 ml (pc + 1) (ls.set i (some v)) st M) : mG p l e R s m args below meth c Q D cA ad base n0 s0 ml pc ls (v :: st) M := by
  intro H locs lsA hR hs hl hL
  obtain ⟨hv, hs⟩ := mOkS_c.mp hs
  have hi' : (i : Nat) < ml := by rw [← hL.1]; exact hi
  have k' := fun ls' q => k H locs ls' hR hs (mOkL_set hl hv) (mLR_set (ad := ad) (v := v) hL.1 hb q)
  match v, ht with
  | Sum.inl x, ht => exact lv_istore_n cx.1 cx.2.1 (hd.1 ht.symm) rfl hL.2 hi' rfl k'
  | Sum.inr (Sum.inl x), ht => exact absurd ht.symm h1
  | Sum.inr (Sum.inr (some a)), ht => exact lv_astore_n cx.1 cx.2.1 (hd.2 ht.symm) rfl hL.2 hi' rfl k'
  | Sum.inr (Sum.inr none), ht => exact lv_astore_nN cx.1 cx.2.1 (hd.2 ht.symm) rfl hL.2 hi' rfl k'
theorem ms_store (cx : mCx p s m args meth c o kind bs ml D cA ad base) {i : Nat} {v : mV} (t : Nat) (ht : mIs v = t) (hi : i < ls.length) (hb : mBefore ls i = false) (hd : (t = 0 → decode bs pc = .ok (.istore i, 2)) ∧ (t = 2 → decode bs pc = .ok (.astore i, 2))) (h1 : t ≠ 1) (k : mG p l e R s m args below meth c Q D cA ad base n0 s0 ml (pc + 2) (ls.set i (some v)) st M) : mG p l e R s m args below meth c Q D cA ad base n0 s0 ml pc ls (v :: st) M := by
  intro H locs lsA hR hs hl hL
  obtain ⟨hv, hs⟩ := mOkS_c.mp hs
  have hi' : i < ml := by rw [← hL.1]; exact hi
  have k' := fun ls' q => k H locs ls' hR hs (mOkL_set hl hv) (mLR_set (ad := ad) (v := v) hL.1 hb q)
  match v, ht with
  | Sum.inl x, ht => exact lv_istore cx.1 cx.2.1 (hd.1 ht.symm) hL.2 hi' rfl k'
  | Sum.inr (Sum.inl x), ht => exact absurd ht.symm h1
  | Sum.inr (Sum.inr (some a)), ht => exact lv_astore cx.1 cx.2.1 (hd.2 ht.symm) hL.2 hi' rfl k'
  | Sum.inr (Sum.inr none), ht => exact lv_astoreN cx.1 cx.2.1 (hd.2 ht.symm) hL.2 hi' rfl k'
theorem ms_storeJN (cx : mCx p s m args meth c o kind bs ml D cA ad base) {i : Fin 4} {x : Int} (hi : (i : Nat) + 1 < ls.length) (hb : mBefore ls i = false) (hd : decode bs pc = .ok (.lstore_n i, 1)) (k : mG p l e R s m args below meth c Q D cA ad base n0 s0 ml (pc + 1) ((ls.set i (some (mJ x))).set (i + 1) none) st M) : mG p l e R s m args below meth c Q D cA ad base n0 s0 ml pc ls (mJ x :: st) M := by
  intro H locs lsA hR hs hl hL
  obtain ⟨hv, hs⟩ := mOkS_c.mp hs
  have hi' : (i : Nat) + 1 < ml := by rw [← hL.1]; exact hi
  exact lv_lstore_n cx.1 cx.2.1 hd rfl hL.2 hi' rfl fun ls' q => k H locs ls' hR hs (mOkL_none (mOkL_set hl hv)) (mLR_setJ (ad := ad) (v := mJ x) hL.1 hb q)
theorem ms_storeJ (cx : mCx p s m args meth c o kind bs ml D cA ad base) {i : Nat} {x : Int} (hi : i + 1 < ls.length) (hb : mBefore ls i = false) (hd : decode bs pc = .ok (.lstore i, 2)) (k : mG p l e R s m args below meth c Q D cA ad base n0 s0 ml (pc + 2) ((ls.set i (some (mJ x))).set (i + 1) none) st M) : mG p l e R s m args below meth c Q D cA ad base n0 s0 ml pc ls (mJ x :: st) M := by
  intro H locs lsA hR hs hl hL
  obtain ⟨hv, hs⟩ := mOkS_c.mp hs
  have hi' : i + 1 < ml := by rw [← hL.1]; exact hi
  exact lv_lstore cx.1 cx.2.1 hd hL.2 hi' rfl fun ls' q => k H locs ls' hR hs (mOkL_none (mOkL_set hl hv)) (mLR_setJ (ad := ad) (v := mJ x) hL.1 hb q)
theorem mAl_pos {ad : Nat → Nat} {ls : mLs} {i : Nat} {v : mV} (h : ls[i]? = some (some v)) : ∃ k : Nat, (mAl ad ls)[k]? = some (i, mCv ad v) := List.getElem?_of_mem (mAl_mem.mpr ⟨v, h, rfl⟩)
end MS
