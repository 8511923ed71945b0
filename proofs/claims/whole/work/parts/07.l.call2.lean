/-! ===== the three kinds of calls ===== -/
theorem mmT_all : mmT.all (fun q => match mtab[q.2.2.1]? with
  | some (some e) => decide (lw_tbl[q.2.2.2]? = some (.methodLink (mCN q.1) q.2.1 e.2.1)) && goodWord (.methodLink (mCN q.1) q.2.1 e.2.1)
  | _ => false) = true := by decide +kernel
theorem mmN_all : mmN.all (fun q => match mtab[q.2.2.1]? with
  | some (some e) => decide (lw_tbl[q.2.2.2]? = some (.methodLinkNest (mCN q.1) q.2.1 e.2.1 "TenthMan"))
  | _ => false) = true := by decide +kernel
theorem mmT_at {o k y : Nat} {e : mMe} (h : mHas4 mmT o k y = true) (he : mtab[y]? = some (some e)) : Cond.methodLink (mCN o) k e.2.1 ∈ mGW := by
  obtain ⟨q, hq, rfl, rfl, rfl⟩ := mHas4_at h
  have h2 := List.all_eq_true.mp mmT_all q hq
  rw [he] at h2
  exact mGW_at _ h2
theorem mmN_at {o k y : Nat} {e : mMe} (h : mHas4 mmN o k y = true) (he : mtab[y]? = some (some e)) : Cond.methodLinkNest (mCN o) k e.2.1 "TenthMan" ∈ lw_tbl := by
  obtain ⟨q, hq, rfl, rfl, rfl⟩ := mHas4_at h
  have h2 := List.all_eq_true.mp mmN_all q hq
  rw [he] at h2
  exact List.mem_of_getElem? (of_decide_eq_true h2)
def mRvs (z v : Int) : List mV := if z = 0 ∨ z = 10 then [] else if z = 1 ∨ z = 11 then [mI v] else [mJ v]
theorem mRvs_ok {ad : Nat → Nat} {e : mMe} {z v : Int} (h : mKindOf e = z) : (mRv e.2.2.2.2.1 v).toList = (mRvs z v).map (mCv ad) ∧ (mRok e.2.2.2.2.1 v → mOkS (mRvs z v)) := by
  unfold mKindOf at h
  generalize e.2.2.2.2.1 = ret at h ⊢
  generalize e.2.2.2.2.2.2.2.2.1 = b at h
  have hI : mOkV (mI v) → mOkS [mI v] := fun h => mOkS_c.mpr ⟨h, fun _ q => by cases q⟩
  have hJ : mOkV (mJ v) → mOkS [mJ v] := fun h => mOkS_c.mpr ⟨h, fun _ q => by cases q⟩
  cases ret with
  | none =>
    have hz : z = 0 ∨ z = 10 := by cases b <;> simp at h <;> omega
    unfold mRvs
    rw [if_pos hz]
    exact ⟨rfl, fun _ _ q => by cases q⟩
  | some t =>
    cases t
    case long =>
      have hz : z = 2 ∨ z = 12 := by cases b <;> simp at h <;> omega
      unfold mRvs
      rw [if_neg (by omega), if_neg (by omega)]
      exact ⟨rfl, fun q => hJ q⟩
    all_goals
      have hz : z = 1 ∨ z = 11 := by cases b <;> simp at h <;> omega
      unfold mRvs
      rw [if_neg (by omega), if_pos hz]
      exact ⟨rfl, fun q => hI q⟩
section MS9
variable {p : Program} {l : Launch} {e : Env} {R : Room} {s : State} {m : MethodId} {args : Array Value} {below : List Frame} {meth : Method} {c : Code} {Q : State → Prop} {D : va_G} {cA : Nat → ClassId} {ad : Nat → Nat} {base n0 s0 ml o kind : Nat} {bs : ByteArray} {pc : Nat} {ls : mLs} {st : List mV} {M : mMem}
theorem mPre_of (cx : mCx p s m args meth c o kind bs ml D cA ad base) {as : List mV} {H : Heap} {locs : List Loc} (hR : mRel D cA ad base n0 s0 s M H locs) (has : mOkS as) (hz : H.size = base + M.1.length) : ∀ U : State, U.heap = H → s.WarmedH U.vm → mPre D cA ad base as M (as.map (mCv ad)).toArray U := by
  intro U hU hW
  exact ⟨rfl, by rw [hU]; exact hz, hR.2.2.1, hR.2.2.2.1, has, by rw [hU]; exact hR.2.2.2.2.1, hR.2.2.2.2.2.1, va_K.moved hW.alike cx.2.2.2.2.2.2.1, fun w hw hn => mNest_warm hW hn (cx.2.2.2.2.2.1 w hw hn), mExt_heap hW hU hR.2.2.2.2.2.2 cx.2.2.2.2.2.2.2.2⟩
theorem ms_callS (cx : mCx p s m args meth c o kind bs ml D cA ad base) (had : ∀ a, a < 1000 → ad a = base + a) (hn0 : s.heap.size = base + n0) {d : Nat} {Φ : mOrc} (hsnd : mSnd l D cA ad base d Φ) {z i na : Nat} {kz : Int} (hck : mCkCall o i z na kz 0 = true) {as : List mV} {r : Int × mMem} (hz : z < 9000) (hΦ : Φ z as M = some r) (hna : as.length = na) (hr : r.2.1.length ≤ 1000) (hr2 : mSl r.2 < 2147483648) (hst : st.length ≤ 4) (hRf : d + 9 ≤ R.frames) (hRl : 40 * d + 440 ≤ R.locals) (hRc : r.2.1.length - n0 ≤ R.cells) (hRs : mSl r.2 - s0 ≤ R.slots) (hd : decode bs pc = .ok (.invokestatic i, 3)) (k : mG p l e R s m args below meth c Q D cA ad base n0 s0 ml (pc + 3) ls (mRvs kz r.1 ++ st) r.2) : mG p l e R s m args below meth c Q D cA ad base n0 s0 ml pc ls (as.reverse ++ st) M := by
  obtain ⟨hlk, em, hem, hk0, hn1, hkz⟩ := mCkCall_at hck
  obtain ⟨em', hem', hrec, hfa, hml9, hqu, hmet⟩ := hsnd.2 z as M r hz hΦ
  cases hem.symm.trans hem'
  have hg := hsnd.1 z as M r hΦ
  intro H locs lsA hR hs hl hL
  have hs1 : mOkS as := fun v hv => hs v (List.mem_append_left _ (List.mem_reverse.mpr hv))
  have hs2 : mOkS st := fun v hv => hs v (List.mem_append_right _ hv)
  refine mW_size fun hz => ?_
  have hsz := mHsize had hn0 (Nat.le_trans hg.1 hr) hR hz
  have hpre : PreS s H (mPre D cA ad base as M) (as.map (mCv ad)) := ⟨mPre_blind, mPre_of cx hR hs1 hsz⟩
  have hstk : (as.reverse ++ st).map (mCv ad) = (as.map (mCv ad)).reverse ++ st.map (mCv ad) := by rw [List.map_append, List.map_reverse]
  rw [hstk]
  have hcat := mCats (ad := ad) st
  have hpm := hfa.2.2.2.2.2.2.2.1
  rw [hk0, if_pos rfl, hn1] at hpm
  have hn2 : (as.map (mCv ad)).length = na := by rw [List.length_map]; exact hna
  have hrm : (mRm d (r.2.1.length - M.1.length) (mSl r.2 - mSl M)).frames + 1 ≤ R.frames ∧ 8 + (em.2.2.2.1 + 11) + (mRm d (r.2.1.length - M.1.length) (mSl r.2 - mSl M)).locals ≤ R.locals := by
    show d + 8 + 1 ≤ _ ∧ 8 + (em.2.2.2.1 + 11) + (40 * d + 400) ≤ _
    omega
  have hf : M.1.length - n0 + (r.2.1.length - M.1.length) ≤ R.cells ∧ mSl M - s0 + (mSl r.2 - mSl M) ≤ R.slots := by
    have := hR.1; have := hR.2.1; have := hg.1; have := hg.2
    omega
  refine ms_run (as := as) (em := em) (r := r) (rv := mRvs kz r.1) cx (mRvs_ok hkz).1 (mRvs_ok (ad := ad) hkz).2 hR hs2 hl hL hg.1 hg.2 ?_ k
  rcases hlk with hlk | hlk
  · exact va_runS (As := as.map (mCv ad)) (rest := st.map (mCv ad)) ⟨cx.1, cx.2.1, cx.2.2.1, cx.2.2.2.1, cx.2.2.2.2.1⟩ (hmet hr hr2) (va_cwS na cx.2.2.2.2.1 (mGood (fun w hw => by
      unfold va_wsS at hw
      simp only [List.cons_append, List.nil_append, List.mem_cons] at hw
      rcases hw with rfl | rfl | rfl | hw
      · exact mmT_at hlk hem
      · exact mGW_of (hfa.2.2.2.1 hk0)
      · exact mGW_of hfa.2.1
      · exact mWs_in hfa w hw)) rfl rfl rfl ⟨hfa.2.2.2.2.2.2.1.1, hfa.2.2.2.2.2.2.1.2, hpm⟩ hrm) hpre rfl hn2 (by rw [← cx.2.2.1]; exact hL.2.1.trans cx.2.2.1.symm) rfl (lv_room (by omega)) hd hf
  · exact va_runSN (host := "TenthMan") (As := as.map (mCv ad)) (rest := st.map (mCv ad)) ⟨cx.1, cx.2.1, cx.2.2.1, cx.2.2.2.1, cx.2.2.2.2.1⟩ (hmet hr hr2) ⟨va_cnB na cx.2.2.2.2.1 (mGood (mWs_in hfa)) rfl rfl rfl (cx.2.2.2.2.2.1 _ (mmN_at hlk hem) rfl) (cx.2.2.2.2.1 _ (mGW_of hfa.2.1)) ⟨hfa.2.2.2.2.2.2.1.1, hfa.2.2.2.2.2.2.1.2, hpm⟩ hrm, cx.2.2.2.2.1 _ (mGW_of (hfa.2.2.2.1 hk0)), trivial⟩ hpre rfl hn2 (by rw [← cx.2.2.1]; exact hL.2.1.trans cx.2.2.1.symm) rfl (lv_room (by omega)) hd hf
theorem ms_callI (cx : mCx p s m args meth c o kind bs ml D cA ad base) (had : ∀ a, a < 1000 → ad a = base + a) (hn0 : s.heap.size = base + n0) {d : Nat} {Φ : mOrc} (hsnd : mSnd l D cA ad base d Φ) {z i na : Nat} {kz : Int} (hck : mCkCall o i z na kz 2 = true) {as : List mV} {r : Int × mMem} (hz : z < 9000) (hΦ : Φ z as M = some r) (hna : as.length = na) (hr : r.2.1.length ≤ 1000) (hr2 : mSl r.2 < 2147483648) (hst : st.length ≤ 4) (hRf : d + 9 ≤ R.frames) (hRl : 40 * d + 440 ≤ R.locals) (hRc : r.2.1.length - n0 ≤ R.cells) (hRs : mSl r.2 - s0 ≤ R.slots) (hret : ∀ em, mtab[z]? = some (some em) → em.2.2.2.2.1 = none) (hd : decode bs pc = .ok (.invokespecial i, 3)) (k : mG p l e R s m args below meth c Q D cA ad base n0 s0 ml (pc + 3) ls (mRvs kz r.1 ++ st) r.2) : mG p l e R s m args below meth c Q D cA ad base n0 s0 ml pc ls (as.reverse ++ st) M := by
  obtain ⟨hlk, em, hem, hk0, hn1, hkz⟩ := mCkCall_at hck
  obtain ⟨em', hem', hrec, hfa, hml9, hqu, hmet⟩ := hsnd.2 z as M r hz hΦ
  cases hem.symm.trans hem'
  have hg := hsnd.1 z as M r hΦ
  have hret := hret em hem
  obtain ⟨a, As, rfl⟩ : ∃ a As, as = mP a :: As := by
    unfold mRecv at hrec
    rw [hk0] at hrec
    match as, hrec with
    | Sum.inr (Sum.inr (some a)) :: As, _ => exact ⟨a, As, rfl⟩
  intro H locs lsA hR hs hl hL
  have hs1 : mOkS (mP a :: As) := fun v hv => hs v (List.mem_append_left _ (List.mem_reverse.mpr hv))
  have hs2 : mOkS st := fun v hv => hs v (List.mem_append_right _ hv)
  refine mW_size fun hz => ?_
  have hsz := mHsize had hn0 (Nat.le_trans hg.1 hr) hR hz
  have hpre : PreS s H (mPre D cA ad base (mP a :: As) M) (.ref (ad a) :: As.map (mCv ad)) := ⟨mPre_blind, mPre_of cx hR hs1 hsz⟩
  have hstk : ((mP a :: As).reverse ++ st).map (mCv ad) = (As.map (mCv ad)).reverse ++ .ref (ad a) :: st.map (mCv ad) := by
    rw [List.map_append, List.map_reverse, List.map_cons, List.reverse_cons, List.append_assoc]; rfl
  rw [hstk]
  have hcat := mCats (ad := ad) st
  have hpm := hfa.2.2.2.2.2.2.2.1
  rw [hk0, if_neg (by decide), hn1] at hpm
  have hn2 : (As.map (mCv ad)).length = na - 1 := by rw [List.length_map]; rw [List.length_cons] at hna; omega
  have hrm : (mRm d (r.2.1.length - M.1.length) (mSl r.2 - mSl M)).frames + 1 ≤ R.frames ∧ 8 + (em.2.2.2.1 + 11) + (mRm d (r.2.1.length - M.1.length) (mSl r.2 - mSl M)).locals ≤ R.locals := by
    show d + 8 + 1 ≤ _ ∧ 8 + (em.2.2.2.1 + 11) + (40 * d + 400) ≤ _
    omega
  have hf : M.1.length - n0 + (r.2.1.length - M.1.length) ≤ R.cells ∧ mSl M - s0 + (mSl r.2 - mSl M) ≤ R.slots := by
    have := hR.1; have := hR.2.1; have := hg.1; have := hg.2
    omega
  have hM := hmet hr hr2
  have hw : mWs em = Cond.code em.2.1 em.2.2.1 em.2.2.2.1 none :: mGW := by unfold mWs; rw [hret]
  refine ms_run (as := mP a :: As) (em := em) (r := r) (rv := mRvs kz r.1) cx (mRvs_ok hkz).1 (mRvs_ok (ad := ad) hkz).2 hR hs2 hl hL hg.1 hg.2 ?_ k
  rcases hlk with hlk | hlk
  · exact va_runI (bytes := em.2.2.1) (maxL := em.2.2.2.1) (b := ad a) (As := As.map (mCv ad)) (rest := st.map (mCv ad)) ⟨cx.1, cx.2.1, cx.2.2.1, cx.2.2.2.1, cx.2.2.2.2.1⟩ hM (cwI (na - 1) cx.2.2.2.2.1 (mGood (mWs_in hfa)) hw rfl rfl (cx.2.2.2.2.1 _ (mGW_of hfa.2.1)) (cx.2.2.2.2.1 _ (mmT_at hlk hem)) (cx.2.2.2.2.1 _ (mGW_of (hfa.2.2.2.2.2.1 hk0).1)) (hfa.2.2.2.2.2.1 hk0).2 ⟨hfa.2.2.2.2.2.2.1.1, hfa.2.2.2.2.2.2.1.2, hpm⟩ hrm) hpre rfl hn2 (by rw [← cx.2.2.1]; exact hL.2.1.trans cx.2.2.1.symm) rfl (lv_room (by omega)) hd hf
  · exact va_runIN (host := "TenthMan") (bytes := em.2.2.1) (maxL := em.2.2.2.1) (b := ad a) (As := As.map (mCv ad)) (rest := st.map (mCv ad)) ⟨cx.1, cx.2.1, cx.2.2.1, cx.2.2.2.1, cx.2.2.2.2.1⟩ hM ⟨va_cnB (na - 1) cx.2.2.2.2.1 (mGood (mWs_in hfa)) hw rfl rfl (cx.2.2.2.2.2.1 _ (mmN_at hlk hem) rfl) (cx.2.2.2.2.1 _ (mGW_of hfa.2.1)) ⟨hfa.2.2.2.2.2.2.1.1, hfa.2.2.2.2.2.2.1.2, hpm⟩ hrm, (hfa.2.2.2.2.2.1 hk0).2, cx.2.2.2.2.1 _ (mGW_of (hfa.2.2.2.2.2.1 hk0).1)⟩ hpre rfl hn2 (by rw [← cx.2.2.1]; exact hL.2.1.trans cx.2.2.1.symm) rfl (lv_room (by omega)) hd hf
theorem ms_callV (cx : mCx p s m args meth c o kind bs ml D cA ad base) (had : ∀ a, a < 1000 → ad a = base + a) (hn0 : s.heap.size = base + n0) {d : Nat} {Φ : mOrc} (hsnd : mSnd l D cA ad base d Φ) {z i na : Nat} {kz : Int} (hck : mCkCall o i z na kz 1 = true) {as : List mV} {r : Int × mMem} (hz : z < 9000) (hΦ : Φ z as M = some r) (hna : as.length = na) (hr : r.2.1.length ≤ 1000) (hr2 : mSl r.2 < 2147483648) (hst : st.length ≤ 4) (hRf : d + 9 ≤ R.frames) (hRl : 40 * d + 440 ≤ R.locals) (hRc : r.2.1.length - n0 ≤ R.cells) (hRs : mSl r.2 - s0 ≤ R.slots) (hd : decode bs pc = .ok (.invokevirtual i, 3)) (k : mG p l e R s m args below meth c Q D cA ad base n0 s0 ml (pc + 3) ls (mRvs kz r.1 ++ st) r.2) : mG p l e R s m args below meth c Q D cA ad base n0 s0 ml pc ls (as.reverse ++ st) M := by
  obtain ⟨hlk, em, hem, hk0, hn1, hkz⟩ := mCkCall_at hck
  obtain ⟨em', hem', hrec, hfa, hml9, hqu, hmet⟩ := hsnd.2 z as M r hz hΦ
  cases hem.symm.trans hem'
  have hg := hsnd.1 z as M r hΦ
  obtain ⟨a, As, rfl, hob, hci⟩ : ∃ a As, as = mP a :: As ∧ mObj M a em.2.2.2.2.2.1 = true ∧ em.2.2.2.2.2.1 < 11 := by
    unfold mRecv at hrec
    rw [hk0] at hrec
    match as, hrec with
    | Sum.inr (Sum.inr (some a)) :: As, hq =>
      have hq : (mObj M a em.2.2.2.2.2.1 && Nat.blt em.2.2.2.2.2.1 11) = true := hq
      rw [Bool.and_eq_true] at hq
      exact ⟨a, As, rfl, hq.1, Nat.le_of_ble_eq_true hq.2⟩
  intro H locs lsA hR hs hl hL
  have hs1 : mOkS (mP a :: As) := fun v hv => hs v (List.mem_append_left _ (List.mem_reverse.mpr hv))
  have hs2 : mOkS st := fun v hv => hs v (List.mem_append_right _ hv)
  refine mW_size fun hz => ?_
  have hsz := mHsize had hn0 (Nat.le_trans hg.1 hr) hR hz
  have hpre : PreV s H em.2.1.cls (ad a) (mPre D cA ad base (mP a :: As) M) (As.map (mCv ad)) := ⟨mPre_blind, by
    have h := va_recv cx.2.2.2.2.2.2.1 hR.2.2.2.2.1 (vw_at _ hci) (mE_obj hci hR.2.2.1 hob)
    rw [hfa.2.2.1]; exact h, mPre_of cx hR hs1 hsz⟩
  have hstk : ((mP a :: As).reverse ++ st).map (mCv ad) = (As.map (mCv ad)).reverse ++ .ref (ad a) :: st.map (mCv ad) := by
    rw [List.map_append, List.map_reverse, List.map_cons, List.reverse_cons, List.append_assoc]; rfl
  rw [hstk]
  have hcat := mCats (ad := ad) st
  have hpm := hfa.2.2.2.2.2.2.2.1
  rw [hk0, if_neg (by decide), hn1] at hpm
  have hn2 : (As.map (mCv ad)).length = na - 1 := by rw [List.length_map]; rw [List.length_cons] at hna; omega
  have hrm : (mRm d (r.2.1.length - M.1.length) (mSl r.2 - mSl M)).frames + 1 ≤ R.frames ∧ 8 + (em.2.2.2.1 + 11) + (mRm d (r.2.1.length - M.1.length) (mSl r.2 - mSl M)).locals ≤ R.locals := by
    show d + 8 + 1 ≤ _ ∧ 8 + (em.2.2.2.1 + 11) + (40 * d + 400) ≤ _
    omega
  have hf : M.1.length - n0 + (r.2.1.length - M.1.length) ≤ R.cells ∧ mSl M - s0 + (mSl r.2 - mSl M) ≤ R.slots := by
    have := hR.1; have := hR.2.1; have := hg.1; have := hg.2
    omega
  have hM := hmet hr hr2
  refine ms_run (as := mP a :: As) (em := em) (r := r) (rv := mRvs kz r.1) cx (mRvs_ok hkz).1 (mRvs_ok (ad := ad) hkz).2 hR hs2 hl hL hg.1 hg.2 ?_ k
  rcases hlk with hlk | hlk
  · exact va_runV (b := ad a) (As := As.map (mCv ad)) (rest := st.map (mCv ad)) ⟨cx.1, cx.2.1, cx.2.2.1, cx.2.2.2.1, cx.2.2.2.2.1⟩ hM (cwV (na - 1) cx.2.2.2.2.1 (mGood (fun w hw => by
      unfold wsV at hw
      simp only [List.cons_append, List.nil_append, List.mem_cons] at hw
      rcases hw with rfl | rfl | rfl | rfl | hw
      · exact mmT_at hlk hem
      · exact mGW_of (hfa.2.2.2.2.1 hk0).1
      · exact mGW_of (hfa.2.2.2.2.1 hk0).2
      · exact mGW_of hfa.2.1
      · exact mWs_in hfa w hw)) rfl rfl rfl ⟨rfl, hfa.2.2.2.2.2.2.1.1, hfa.2.2.2.2.2.2.1.2, hpm⟩ hrm) hpre rfl hn2 (by rw [← cx.2.2.1]; exact hL.2.1.trans cx.2.2.1.symm) rfl (lv_room (by omega)) hd hf
  · exact va_runVN (host := "TenthMan") (b := ad a) (As := As.map (mCv ad)) (rest := st.map (mCv ad)) ⟨cx.1, cx.2.1, cx.2.2.1, cx.2.2.2.1, cx.2.2.2.2.1⟩ hM ⟨va_cnB (na - 1) cx.2.2.2.2.1 (mGood (mWs_in hfa)) rfl rfl rfl (cx.2.2.2.2.2.1 _ (mmN_at hlk hem) rfl) (cx.2.2.2.2.1 _ (mGW_of hfa.2.1)) ⟨hfa.2.2.2.2.2.2.1.1, hfa.2.2.2.2.2.2.1.2, hpm⟩ hrm, cx.2.2.2.2.1 _ (mGW_of (hfa.2.2.2.2.1 hk0).1), cx.2.2.2.2.1 _ (mGW_of (hfa.2.2.2.2.1 hk0).2)⟩ hpre rfl hn2 (by rw [← cx.2.2.1]; exact hL.2.1.trans cx.2.2.1.symm) rfl (lv_room (by omega)) hd hf
end MS9
