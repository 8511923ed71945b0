/-! ===== calls: a method's contract, out of what my machine answers ===== -/
def mRv (ret : Option FieldType) (v : Int) : Option Value := match ret with
  | none => none
  | some .long => some (.long (Int64.ofInt v))
  | some _ => some (.int (Int32.ofInt v))
def mRok (ret : Option FieldType) (v : Int) : Prop := match ret with
  | none => True
  | some .long => w64 v = v
  | some _ => w32 v = v
def mPre (D : va_G) (cA : Nat → ClassId) (ad : Nat → Nat) (base : Nat) (as : List mV) (M : mMem) : Array Value → State → Prop := va_Pc (as.map (mCv ad)) (fun U => U.heap.size = base + M.1.length ∧ mShOk M ∧ mOkM M ∧ mOkS as ∧ va_P D vwCl (mWl ad cA M) U.heap ∧ va_D (mAd base) (mWl ad cA M) ∧ va_K D vwCl (mTys cA) U ∧ (∀ w ∈ lw_tbl, mNest w = true → va_Nw w U) ∧ mExt ad base U)
def mPost (D : va_G) (cA : Nat → ClassId) (ad : Nat → Nat) (base : Nat) (ret : Option FieldType) (r : Int × mMem) : Array Value → State → Outcome → State → Prop := fun _ st oc t => oc = .returned (mRv ret r.1) ∧ mRok ret r.1 ∧ mShOk r.2 ∧ mOkM r.2 ∧ va_P D vwCl (mWl ad cA r.2) t.heap ∧ va_D (mAd base) (mWl ad cA r.2) ∧ va_F (mAd base) st t
def mRm (d mc ms : Nat) : Room := { frames := d + 8, cells := mc, slots := ms, locals := 40 * d + 400 }
def mWs (e : mMe) : List Cond := Cond.code e.2.1 e.2.2.1 e.2.2.2.1 e.2.2.2.2.1 :: mGW
def mMet (l : Launch) (D : va_G) (cA : Nat → ClassId) (ad : Nat → Nat) (base d : Nat) (e : mMe) (as : List mV) (M : mMem) (r : Int × mMem) : Prop := Met l e.2.1 (mWs e) (mRm d (r.2.1.length - M.1.length) (mSl r.2 - mSl M)) (mPre D cA ad base as M) (mPost D cA ad base e.2.2.2.2.1 r) (r.2.1.length - M.1.length) (mSl r.2 - mSl M) (mAd base)
/-- the receiver of a call is an object of the method's class -/
def mRecv (e : mMe) (as : List mV) (M : mMem) : Bool := match e.2.2.2.2.2.2.1 with
  | 0 => true
  | 1 => (match as with
    | Sum.inr (Sum.inr (some a)) :: _ => mObj M a e.2.2.2.2.2.1 && Nat.blt e.2.2.2.2.2.1 11
    | _ => false)
  | _ => (match as with
    | Sum.inr (Sum.inr (some _)) :: _ => true
    | _ => false)
/-- what an oracle must be for my machine to be right -/
def mSnd (l : Launch) (D : va_G) (cA : Nat → ClassId) (ad : Nat → Nat) (base d : Nat) (Φ : mOrc) : Prop := mGrows Φ ∧ ∀ z as M r, z < 9000 → Φ z as M = some r → ∃ e, mtab[z]? = some (some e) ∧ mRecv e as M = true ∧ mFacts e ∧ e.2.2.2.1 ≤ 9 ∧ (e.2.2.2.2.2.2.2.2.1 = true → r.2.1 = M.1 ∧ r.2.2.2 = M.2.2) ∧ (r.2.1.length ≤ 1000 → mSl r.2 < 2147483648 → mMet l D cA ad base d e as M r)
theorem vk_R_same {own tx : String} {k a : Nat} {u U : State} (hv : U.vm = u.vm) (h : vk_R own k tx a u) : vk_R own k tx a U := vk_R.same hv h
theorem mExt_moved {ad : Nat → Nat} {base : Nat} {u U : State} (hvm : u.vm.Alike U.vm) (hh : U.heap = u.heap) (hr : vk_R "TenthMan$Reader" 199 "room  man   lets  bribe tires gate  by    personat    to    coins tact  hour  passedwho   day   or    and   not   all   min   max   " (ad 1002) U) (h : mExt ad base u) : mExt ad base U := by
  obtain ⟨h1, h2, h3, h4, h5, ⟨adV, h6⟩, h7, h8, h9⟩ := h
  unfold mExt
  rw [hh]
  exact ⟨h1.moved hvm, h2.moved hvm, h3.moved hvm, h4.moved hvm, hr, ⟨adV, h6.moved hvm⟩, h7.moved hvm, h8.moved hvm, h9.moved hvm⟩
theorem mExt_heap {ad : Nat → Nat} {base : Nat} {s U : State} {H : Heap} {locs : List Loc} (hW : s.WarmedH U.vm) (hU : U.heap = H) (hS : va_S (mAd base) s.heap H locs) (h : mExt ad base s) : mExt ad base U := by
  obtain ⟨h1, h2, h3, h4, h5, ⟨adV, h6⟩, h7, h8, h9⟩ := h
  unfold mExt
  rw [hU]
  exact ⟨(h1.kept hS.2.1).moved hW.alike, (h2.kept hS.2.1).moved hW.alike, (h3.kept hS.2.1).moved hW.alike, (h4.kept hS.2.1).moved hW.alike, h5.warm hW, ⟨adV, (h6.kept hS.2.1).moved hW.alike⟩, (h7.kept hS.2.1).moved hW.alike, (h8.kept hS.2.1).moved hW.alike, h9.moved hW.alike⟩
theorem mNest_warm {s U : State} (hW : s.WarmedH U.vm) {w : Cond} (hn : mNest w = true) (h : va_Nw w s) : va_Nw w U := by
  cases w <;> first | (cases hn; done) | exact va_Nw.warmF hW h | exact va_Nw.warmM hW h
theorem mNest_same {u U : State} (hv : u.vm = U.vm) {w : Cond} (hn : mNest w = true) (h : va_Nw w u) : va_Nw w U := by
  cases w <;> first | (cases hn; done) | exact va_Nw.same rfl hv h
theorem mPre_blind {D : va_G} {cA : Nat → ClassId} {ad : Nat → Nat} {base : Nat} {as : List mV} {M : mMem} : FrameBlind (mPre D cA ad base as M) := by
  intro a U g mk q
  obtain ⟨q0, q1, q2, q3, q4, q5, q6, q7, q8, q9⟩ := q
  exact ⟨q0, q1, q2, q3, q4, q5, q6, va_K.moved (u := U) (U := U.calling g mk a) (Vm.Alike.refl U.vm) q7, fun w hw hn => mNest_same (u := U) (U := U.calling g mk a) rfl hn (q8 w hw hn), mExt_moved (u := U) (U := U.calling g mk a) (Vm.Alike.refl U.vm) rfl (vk_R.same (u := U) (U := U.calling g mk a) rfl q9.2.2.2.2.1) q9⟩
theorem mGood {X : List Cond} (h : ∀ w ∈ X, w ∈ mGW) : GoodIn mGW X := fun w hw => ⟨h w hw, good_of_word (List.mem_filter.mp (h w hw)).2⟩
theorem mWs_in {e : mMe} (h : mFacts e) : ∀ w ∈ mWs e, w ∈ mGW := by
  intro w hw
  rcases List.mem_cons.mp hw with rfl | hw
  · exact mGW_of h.1
  · exact hw
theorem mCkCall_at {o k y n : Nat} {z : Int} {kind : Nat} (h : mCkCall o k y n z kind = true) : (mHas4 mmT o k y = true ∨ mHas4 mmN o k y = true) ∧ ∃ e, mtab[y]? = some (some e) ∧ e.2.2.2.2.2.2.1 = kind ∧ e.2.2.2.2.2.2.2.1 = n ∧ mKindOf e = z := by
  unfold mCkCall at h
  rw [Bool.and_eq_true, Bool.or_eq_true] at h
  refine ⟨h.1, ?_⟩
  have h2 := h.2
  split at h2
  · rename_i e he
    simp only [Bool.and_eq_true, decide_eq_true_eq] at h2
    exact ⟨e, he, Nat.eq_of_beq_eq_true h2.1.1, Nat.eq_of_beq_eq_true h2.1.2, h2.2⟩
  · cases h2
section MS8
variable {p : Program} {l : Launch} {e : Env} {R : Room} {s : State} {m : MethodId} {args : Array Value} {below : List Frame} {meth : Method} {c : Code} {Q : State → Prop} {D : va_G} {cA : Nat → ClassId} {ad : Nat → Nat} {base n0 s0 ml o kind : Nat} {bs : ByteArray} {pc : Nat} {ls : mLs} {st : List mV} {M : mMem}
/-- the heap ends where the last of my cells lies -/
theorem mHsize {H : Heap} {locs : List Loc} (had : ∀ a, a < 1000 → ad a = base + a) (hn0 : s.heap.size = base + n0) (hM : M.1.length ≤ 1000) (hR : mRel D cA ad base n0 s0 s M H locs) (hz : H.size ≤ s.heap.size + (M.1.length - n0)) : H.size = base + M.1.length := by
  have h1 := hR.1
  have h2 := hR.2.2.2.2.2.2.1
  rcases Nat.lt_or_ge n0 M.1.length with q | q
  · have h3 := (hR.2.2.2.2.1 (M.1.length - 1) _ (mWl_at (by omega))).lt
    have h4 : ad (M.1.length - 1) < H.size := h3
    rw [had _ (by omega)] at h4
    omega
  · omega
theorem mCats (st : List mV) : ((st.map (mCv ad)).map fun v => v.category).sum ≤ 2 * st.length := by
  induction st with
  | nil => simp
  | cons v r ih =>
    simp only [List.map_cons, List.sum_cons, List.length_cons]
    have : (mCv ad v).category ≤ 2 := by unfold Value.category; split <;> omega
    omega
theorem ms_run (cx : mCx p s m args meth c o kind bs ml D cA ad base) {em : mMe} {as : List mV} {r : Int × mMem} {H : Heap} {locs : List Loc} {lsA : Array Slot} {rv : List mV} (hrv : (mRv em.2.2.2.2.1 r.1).toList = rv.map (mCv ad)) (hrok : mRok em.2.2.2.2.1 r.1 → mOkS rv) (hR : mRel D cA ad base n0 s0 s M H locs) (hs : mOkS st) (hl : mOkL ls) (hL : mLR ad lsA ls ml) (hg1 : M.1.length ≤ r.2.1.length) (hg2 : mSl M ≤ mSl r.2) {st0 : List Value}
    (hrun : va_Run p l e R s m args below meth c H locs (M.1.length - n0) (mSl M - s0) (r.2.1.length - M.1.length) (mSl r.2 - mSl M) (F0 m pc lsA st0) (st.map (mCv ad)) (mPost D cA ad base em.2.2.2.2.1 r (as.map (mCv ad)).toArray) (mAd base))
    (k : mG p l e R s m args below meth c Q D cA ad base n0 s0 ml (pc + 3) ls (rv ++ st) r.2) : W p l e R s m args below meth c H locs (M.1.length - n0) (mSl M - s0) Q (F0 m pc lsA st0) := by
  intro T hT X
  obtain ⟨v, st₀, t, T', L, h0, X', hL', e1, e2, ⟨hv, hok, q1, q2, q3, q4, q5⟩, stp⟩ := hrun T hT X
  cases hv
  have e3 : M.1.length - n0 + (r.2.1.length - M.1.length) = r.2.1.length - n0 := by have := hR.1; omega
  have e4 : mSl M - s0 + (mSl r.2 - mSl M) = mSl r.2 - s0 := by have := hR.2.1; omega
  rw [e3, e4] at X'
  have hS : va_S (mAd base) s.heap t.heap (locs ++ L) := by
    have hS := hR.2.2.2.2.2.2
    refine ⟨Nat.le_trans hS.1 (by have := q5.1; rw [h0] at this; exact this), fun q h1 h2 => ?_, fun x hx => ?_⟩
    · have := q5.2 q (by rw [h0]; exact Nat.lt_of_lt_of_le h1 hS.1) h2
      rw [this, h0]; exact hS.2.1 q h1 h2
    · rcases List.mem_append.mp hx with h | h
      · exact hS.2.2 x h
      · exact hL' x h
  obtain ⟨t2, a1, b1⟩ := k t.heap (locs ++ L) lsA ⟨Nat.le_trans hR.1 hg1, Nat.le_trans hR.2.1 hg2, q1, q2, q3, q4, hS⟩ (fun w hw => (List.mem_append.mp hw).elim (hrok hok w) (hs w)) hl hL T' e1 X'
  rw [List.map_append, ← hrv] at a1
  exact ⟨t2, stp t2 a1, b1⟩
end MS8
