/-! ===== every step ===== -/
section MSt
variable {p : Program} {l : Launch} {e : Env} {R : Room} {s : State} {m : MethodId} {args : Array Value} {below : List Frame} {meth : Method} {c : Code} {Q : State → Prop} {D : va_G} {cA : Nat → ClassId} {ad : Nat → Nat} {base n0 s0 ml o kind : Nat} {bs : ByteArray} {ret : Option FieldType}
/-- what a run's soundness stands on, but for the code -/
def mEnv (p : Program) (l : Launch) (e : Env) (R : Room) (s : State) (m : MethodId) (args : Array Value) (below : List Frame) (meth : Method) (c : Code) (Q : State → Prop) (D : va_G) (cA : Nat → ClassId) (ad : Nat → Nat) (base n0 s0 ml o kind : Nat) (bs : ByteArray) (ret : Option FieldType) (d : Nat) (Φ : mOrc) (res : Int × mMem) : Prop :=
  mCx p s m args meth c o kind bs ml D cA ad base ∧ (∀ a, a < 1000 → ad a = base + a) ∧ s.heap.size = base + n0 ∧ mSnd l D cA ad base d Φ ∧ d + 9 ≤ R.frames ∧ 40 * d + 440 ≤ R.locals ∧ res.2.1.length ≤ 1000 ∧ res.2.1.length - n0 ≤ R.cells ∧ mSl res.2 - s0 ≤ R.slots ∧ mSl res.2 < 2147483648 ∧
  (∀ (pc : Nat) (ls : mLs) (st : List mV) (v : Int) (M : mMem), res = (v, M) → mEndOk bs ret v st pc → mG p l e R s m args below meth c Q D cA ad base n0 s0 ml pc ls st M) ∧
  (∀ (pc : Nat) (ls : mLs) (st : List mV) (M : mMem) (i : Int) (x : Int × mMem), Φ 9996 [mI i] M = some x → decode bs pc = .ok (.iaload, 1) → mG p l e R s m args below meth c Q D cA ad base n0 s0 ml (pc + 1) ls (mI x.1 :: st) (M.1, x.2.2.1, M.2.2) → mG p l e R s m args below meth c Q D cA ad base n0 s0 ml pc ls (mI i :: mP 1003 :: st) M) ∧
  (∀ (pc : Nat) (ls : mLs) (st : List mV) (M : mMem) (x : Int × mMem), Φ 9995 [] M = some x → decode bs pc = .ok (.arraylength, 1) → mG p l e R s m args below meth c Q D cA ad base n0 s0 ml (pc + 1) ls (mI x.1 :: st) (M.1, x.2.2.1, M.2.2) → mG p l e R s m args below meth c Q D cA ad base n0 s0 ml pc ls (mP 1003 :: st) M) ∧
  (∀ (pc : Nat) (ls : mLs) (st : List mV) (M : mMem) (i : Int), o = 4 → 0 ≤ i ∧ i < 132 → st.length ≤ 4 → M.1.length - n0 ≤ R.cells → mSl M - s0 ≤ R.slots → decode bs pc = .ok (.invokevirtual 201, 3) → mG p l e R s m args below meth c Q D cA ad base n0 s0 ml (pc + 3) ls (mI (xWords.getD i.toNat 0) :: st) M → mG p l e R s m args below meth c Q D cA ad base n0 s0 ml pc ls (mI i :: mP 1002 :: st) M)
theorem ms_objInit {pc : Nat} {ls : mLs} {st : List mV} {M : mMem} (cx : mCx p s m args meth c o kind bs ml D cA ad base) {i a : Nat} (hlk : mHas3 oT o i = true) (hRf : 1 ≤ R.frames) (hRl : 100 ≤ R.locals) (hst : st.length ≤ 4) (hd : decode bs pc = .ok (.invokespecial i, 3)) (k : mG p l e R s m args below meth c Q D cA ad base n0 s0 ml (pc + 3) ls st M) : mG p l e R s m args below meth c Q D cA ad base n0 s0 ml pc ls (mP a :: st) M := by
  intro H locs lsA hR hs hl hL
  have hcat := mCats (ad := ad) st
  refine W.objInit (g := F0 m pc lsA ((mP a :: st).map (mCv ad))) cx.1 cx.2.1 cx.2.2.2.1 (cx.2.2.2.2.1 _ (oT_at hlk)) (cx.2.2.2.2.1 (.instanceMethod objectInit) (mGW_of ⟨by decide +kernel, by decide +kernel⟩)) (cx.2.2.2.2.1 (.code objectInit ⟨#[0xb1]⟩ 1 none) (mGW_of ⟨by decide +kernel, by decide +kernel⟩)) rfl (by rw [cx.2.2.1]; exact hL.2.1) (a := ad a) (rest := st.map (mCv ad)) rfl hd hRf ?_ (k H locs lsA hR (mOkS_c.mp hs).2 hl hL)
  have := lv_room (m := m) (pc := pc) (ls := lsA) (rest := (mP a :: st).map (mCv ad)) (st := st.map (mCv ad)) (by omega)
  omega
end MSt
