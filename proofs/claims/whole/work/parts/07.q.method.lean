/-! ===== the methods of the table, by depth: each contract out of what my machine answers ===== -/
theorem mAl_shift {ad : Nat → Nat} : ∀ (as : List mV) (k : Nat) (i : Nat) (v : mV), (mIniL as)[i]? = some (some v) → (k + i, mCv ad v) ∈ lv_args k (as.map (mCv ad))
  | [], _, _, _, h => by simp [mIniL] at h
  | Sum.inl x :: r, k, 0, v, h => by
    have h : some (some (mI x)) = some (some v) := h
    cases h
    exact List.mem_cons_self
  | Sum.inl x :: r, k, i + 1, v, h => by
    have h : (mIniL r)[i]? = some (some v) := h
    have ih := mAl_shift (ad := ad) r (k + 1) i v h
    refine List.mem_cons_of_mem _ ?_
    show _ ∈ lv_args (if (mCv ad (Sum.inl x)).category = 2 then k + 2 else k + 1) _
    rw [if_neg (by rw [mCat]; show ¬ (0 : Nat) = 1; decide), show k + (i + 1) = k + 1 + i by omega]
    exact ih
  | Sum.inr (Sum.inr x) :: r, k, 0, v, h => by
    have h : some (some (Sum.inr (Sum.inr x))) = some (some v) := h
    cases h
    exact List.mem_cons_self
  | Sum.inr (Sum.inr x) :: r, k, i + 1, v, h => by
    have h : (mIniL r)[i]? = some (some v) := h
    have ih := mAl_shift (ad := ad) r (k + 1) i v h
    refine List.mem_cons_of_mem _ ?_
    show _ ∈ lv_args (if (mCv ad (Sum.inr (Sum.inr x))).category = 2 then k + 2 else k + 1) _
    rw [if_neg (by rw [mCat]; show ¬ (2 : Nat) = 1; decide), show k + (i + 1) = k + 1 + i by omega]
    exact ih
  | Sum.inr (Sum.inl x) :: r, k, 0, v, h => by
    have h : some (some (mJ x)) = some (some v) := h
    cases h
    exact List.mem_cons_self
  | Sum.inr (Sum.inl x) :: r, k, 1, v, h => by
    have h : some none = some (some v) := h
    cases h
  | Sum.inr (Sum.inl x) :: r, k, i + 2, v, h => by
    have h : (mIniL r)[i]? = some (some v) := h
    have ih := mAl_shift (ad := ad) r (k + 2) i v h
    refine List.mem_cons_of_mem _ ?_
    show _ ∈ lv_args (if (mCv ad (Sum.inr (Sum.inl x))).category = 2 then k + 2 else k + 1) _
    rw [if_pos (mCat.mpr rfl), show k + (i + 2) = k + 2 + i by omega]
    exact ih
theorem mIniL_sl {ad : Nat → Nat} : ∀ as : List mV, (lg_sl (as.map (mCv ad))).length = (mIniL as).length
  | [] => rfl
  | Sum.inl x :: r => by
    show (lg_sl (mCv ad (Sum.inl x) :: r.map (mCv ad))).length = (mIniL r).length + 1
    unfold lg_sl
    rw [List.flatMap_cons, List.length_append, if_neg (by rw [mCat]; show ¬ (0 : Nat) = 1; decide)]
    have := mIniL_sl (ad := ad) r
    unfold lg_sl at this
    rw [this]; simp; omega
  | Sum.inr (Sum.inr x) :: r => by
    show (lg_sl (mCv ad (Sum.inr (Sum.inr x)) :: r.map (mCv ad))).length = (mIniL r).length + 1
    unfold lg_sl
    rw [List.flatMap_cons, List.length_append, if_neg (by rw [mCat]; show ¬ (2 : Nat) = 1; decide)]
    have := mIniL_sl (ad := ad) r
    unfold lg_sl at this
    rw [this]; simp; omega
  | Sum.inr (Sum.inl x) :: r => by
    show (lg_sl (mCv ad (Sum.inr (Sum.inl x)) :: r.map (mCv ad))).length = (mIniL r).length + 1 + 1
    unfold lg_sl
    rw [List.flatMap_cons, List.length_append, if_pos (mCat.mpr rfl)]
    have := mIniL_sl (ad := ad) r
    unfold lg_sl at this
    rw [this]; simp; omega
theorem mIni_at {as : List mV} {n i : Nat} {v : mV} (h : (mIni as n)[i]? = some (some v)) : (mIniL as)[i]? = some (some v) := by
  unfold mIni at h
  rcases Nat.lt_or_ge i (mIniL as).length with q | q
  · rw [List.getElem?_append_left q] at h; exact h
  · rw [List.getElem?_append_right q, List.getElem?_replicate] at h
    split at h <;> cases h
theorem mIni_ok : ∀ {as : List mV}, mOkS as → ∀ (i : Nat) (v : mV), (mIniL as)[i]? = some (some v) → mOkV v
  | [], _, _, _, h => by simp [mIniL] at h
  | Sum.inl x :: r, hs, 0, v, h => by
    have h : some (some (mI x)) = some (some v) := h
    cases h
    exact (mOkS_c.mp hs).1
  | Sum.inl x :: r, hs, i + 1, v, h => mIni_ok (mOkS_c.mp hs).2 i v h
  | Sum.inr (Sum.inr x) :: r, hs, 0, v, h => by
    have h : some (some (Sum.inr (Sum.inr x))) = some (some v) := h
    cases h
    trivial
  | Sum.inr (Sum.inr x) :: r, hs, i + 1, v, h => mIni_ok (mOkS_c.mp hs).2 i v h
  | Sum.inr (Sum.inl x) :: r, hs, 0, v, h => by
    have h : some (some (mJ x)) = some (some v) := h
    cases h
    exact (mOkS_c.mp hs).1
  | Sum.inr (Sum.inl x) :: r, hs, 1, v, h => by
    have h : some none = some (some v) := h
    cases h
  | Sum.inr (Sum.inl x) :: r, hs, i + 2, v, h => mIni_ok (mOkS_c.mp hs).2 i v h
theorem mIni_len {as : List mV} {n : Nat} (h : (mIniL as).length ≤ n) : (mIni as n).length = n := by
  unfold mIni
  rw [List.length_append, List.length_replicate]; omega
theorem mLR_ini {ad : Nat → Nat} {as : List mV} {n : Nat} (h : (mIniL as).length ≤ n) : mLR ad (lg_sl (as.map (mCv ad)) ++ List.replicate (n - (lg_sl (as.map (mCv ad))).length) Slot.unset).toArray (mIni as n) n := by
  refine ⟨mIni_len h, lv_has_sub (lv_entry (as.map (mCv ad)) (n := n) (by rw [mIniL_sl]; exact h)) ?_⟩
  rintro ⟨i, x⟩ hq
  obtain ⟨v, hv, rfl⟩ := mAl_mem.mp hq
  have := mAl_shift (ad := ad) as 0 i v (mIni_at hv)
  rw [Nat.zero_add] at this
  exact this
/-- what the table says of a method, all of it -/
def mGoodM (e : mMe) : Prop := mFacts e ∧ mCodOk e.2.2.2.2.2.1 e.2.2.2.2.2.2.1 e.2.2.2.2.1 e.2.2.1 e.2.2.2.2.2.2.2.2.2.2 ∧ e.2.2.2.1 ≤ 9 ∧ (e.2.2.2.2.2.2.2.2.1 = true → mQuietC e.2.2.2.2.2.2.2.2.2.2)
def mGoodT : Prop := ∀ (z : Nat) (e : mMe), mtab[z]? = some (some e) → mGoodM e
def mBnd (k : mCod) (n : Nat) : Prop := ∀ pc ent, k pc = some ent → pc < n
theorem mBnd_of (T : mCod) (n : Nat) : mBnd (fun pc => bif Nat.blt pc n then T pc else none) n := by
  intro pc ent h
  cases hb : Nat.blt pc n with
  | true => exact Nat.le_of_ble_eq_true hb
  | false => dsimp only at h; rw [hb] at h; cases h
theorem mGood_of {e : mMe} (h1 : mFacts e) (h2 : mCk e = true) (h3 : mBnd e.2.2.2.2.2.2.2.2.2.2 e.2.2.2.2.2.2.2.2.2.1) (h4 : Nat.ble e.2.2.2.1 9 = true) : mGoodM e := by
  have h : ∀ pc ent, e.2.2.2.2.2.2.2.2.2.2 pc = some ent → (mCkE e.2.2.2.2.2.1 e.2.2.2.2.2.2.1 e.2.2.2.2.1 e.2.2.1 pc ent && (!e.2.2.2.2.2.2.2.2.1 || mQuiet ent)) = true := by
    intro pc ent he
    have h5 := List.all_eq_true.mp h2 pc (List.mem_range.mpr (h3 pc ent he))
    rw [he] at h5
    exact h5
  refine ⟨h1, fun pc ent he => ?_, Nat.le_of_ble_eq_true h4, fun hq pc ent he => ?_⟩
  · have := h pc ent he
    rw [Bool.and_eq_true] at this
    exact this.1
  · have := h pc ent he
    rw [Bool.and_eq_true, hq] at this
    exact this.2
theorem mCallN_out {d z : Nat} {as : List mV} {M : mMem} (hz : 260 ≤ z) : mCallN d z as M = none := by
  cases d with
  | zero => rfl
  | succ d =>
    cases h : mCallN (d + 1) z as M with
    | none => rfl
    | some r =>
      obtain ⟨e, he, -⟩ := mCallN_inv h
      have h1 := (List.getElem?_eq_some_iff.mp he).1
      have h2 := mtab_len
      omega
/-- charAt of the constant text: proved in a part of its own -/
def mCharAt (l : Launch) (D : va_G) (cA : Nat → ClassId) (ad : Nat → Nat) (base : Nat) : Prop := ∀ (p : Program) (e : Env) (R : Room) (s : State) (m : MethodId) (args : Array Value) (below : List Frame) (meth : Method) (c : Code) (Q : State → Prop) (n0 s0 ml kind : Nat) (bs : ByteArray), mCx p s m args meth c 4 kind bs ml D cA ad base → 9 ≤ R.frames → 440 ≤ R.locals → ∀ (pc : Nat) (ls : mLs) (st : List mV) (M : mMem) (i : Int), 0 ≤ i ∧ i < 132 → st.length ≤ 4 → M.1.length - n0 ≤ R.cells → mSl M - s0 ≤ R.slots → decode bs pc = .ok (.invokevirtual 201, 3) → mG p l e R s m args below meth c Q D cA ad base n0 s0 ml (pc + 3) ls (mI (xWords.getD i.toNat 0) :: st) M → mG p l e R s m args below meth c Q D cA ad base n0 s0 ml pc ls (mI i :: mP 1002 :: st) M
theorem mSnd_all {l : Launch} {D : va_G} {cA : Nat → ClassId} {ad : Nat → Nat} {base : Nat} (hT : mGoodT) (had : ∀ a, a < 1000 → ad a = base + a) (hch : mCharAt l D cA ad base) : ∀ d, mSnd l D cA ad base d (mCallN d)
  | 0 => ⟨mCallN_grows 0, fun _ _ _ _ _ h => by cases h⟩
  | d + 1 => by
    have ih := mSnd_all (l := l) (D := D) (cA := cA) hT had hch d
    refine ⟨mCallN_grows (d + 1), fun z as M r hz h => ?_⟩
    obtain ⟨em, hem, hrec, hlen, n, hrun⟩ := mCallN_inv h
    have hG := hT z em hem
    refine ⟨em, hem, hrec, hG.1, hG.2.2.1, fun hq => mRun_qu (hG.2.2.2 hq) n _ _ _ _ hrun, fun hr1 hr2 => ?_⟩
    have hgr := mRun_gr (mCallN_grows d) n _ _ _ _ hrun
    refine va_MetF (cc := em.2.2.1) (maxL := em.2.2.2.1) (ret := em.2.2.2.2.1) hG.1.2.2.2.2.2.2.2.2 rfl ?_
    intro p e s m args below meth c s₁ B hml hv
    obtain ⟨rfl, q1, q2, q3, q4, q5, q6, q7, q8, q9⟩ := hv
    have hts := atoms_spec (ws := mWs em) B.pre
    have hown : s.vm.findClass (mCN em.2.2.2.2.2.1) = some m.cls := by rw [← hG.1.2.2.1]; exact findClass_of_methodNamed B.named
    have cx : mCx p s m (as.map (mCv ad)).toArray meth c em.2.2.2.2.2.1 em.2.2.2.2.2.2.1 em.2.2.1 em.2.2.2.1 D cA ad base := ⟨B.exec, B.bytes, hml, hown, fun w hw => hts w (List.mem_cons_of_mem _ hw), q8, q7, fun hk => by rw [(name_of_methodNamed B.named B.method).1]; exact (hG.1.2.2.2.2.2.1 hk).2, q9⟩
    have hret := B.returns
    have hlocks := B.notSynchronized
    have E : mEnv p l e (mRm (d + 1) (r.2.1.length - M.1.length) (mSl r.2 - mSl M)) s m (as.map (mCv ad)).toArray below meth c (MQ below (mPost D cA ad base em.2.2.2.2.1 r) (as.map (mCv ad)).toArray s (r.2.1.length - M.1.length) (mSl r.2 - mSl M) (mAd base)) D cA ad base M.1.length (mSl M) em.2.2.2.1 em.2.2.2.2.2.1 em.2.2.2.2.2.2.1 em.2.2.1 em.2.2.2.2.1 d (mCallN d) r := by
      refine ⟨cx, had, q1, ih, (by show d + 9 ≤ d + 1 + 8; omega), (by show 40 * d + 440 ≤ 40 * (d + 1) + 400; omega), hr1, Nat.le_refl _, Nat.le_refl _, hr2, ?_, (fun _ _ _ _ _ _ hx => by rw [mCallN_out (by decide)] at hx; cases hx), (fun _ _ _ _ _ hx => by rw [mCallN_out (by decide)] at hx; cases hx), ?_⟩
      · intro pc ls st v M' hres hend H locs lsA hR hs hl hL
        subst hres
        have post : ∀ t : State, t.heap = H → mRok em.2.2.2.2.1 v → mPost D cA ad base em.2.2.2.2.1 (v, M') (as.map (mCv ad)).toArray s (.returned (mRv em.2.2.2.2.1 v)) t := fun t ht hk => ⟨rfl, hk, hR.2.2.1, hR.2.2.2.1, by rw [ht]; exact hR.2.2.2.2.1, hR.2.2.2.2.2.1, hR.2.2.2.2.2.2.F ht⟩
        rcases hend with ⟨hr, rfl, hd⟩ | ⟨hr, rfl, hd⟩ | ⟨hr, rfl, h01, hd⟩ | ⟨hr, rfl, hd⟩
        · rw [hr] at post hret ⊢
          exact W.vret cx.1 cx.2.1 hret (fun t ht _ => post t ht trivial) hR.2.2.2.2.2.2.2.2 hd
        · rw [hr] at post hret ⊢
          exact W.iret cx.1 cx.2.1 hret (fun t ht _ => post t ht (mOkS_c.mp hs).1) hR.2.2.2.2.2.2.2.2 hd
        · rw [hr] at post hret ⊢
          exact W.zret cx.1 cx.2.1 hret (by rcases h01 with rfl | rfl <;> rfl) (fun t ht _ => post t ht (mOkS_c.mp hs).1) hR.2.2.2.2.2.2.2.2 hd
        · rw [hr] at post hret ⊢
          exact W.lret cx.1 cx.2.1 hret (fun t ht _ => post t ht (mOkS_c.mp hs).1) hR.2.2.2.2.2.2.2.2 hd
      · intro pc ls st M' i ho hi hst hc1 hc2 hd k
        rw [ho] at cx
        exact hch _ _ _ _ _ _ _ _ _ _ _ _ _ _ _ cx (by show 9 ≤ d + 1 + 8; omega) (by show 440 ≤ 40 * (d + 1) + 400; omega) pc ls st M' i hi hst hc1 hc2 hd k
    have hg := mRun_sound E hG.2.1 n _ _ _ _ hrun
    have hw := hg s.heap [] _ ⟨Nat.le_refl _, Nat.le_refl _, q2, q3, q5, q6, va_S.rf⟩ (fun _ q => by cases q) (fun i v hv => mIni_ok q4 i v (mIni_at hv)) (mLR_ini hlen)
    rw [Nat.sub_self, Nat.sub_self] at hw
    rw [lg_entry_eq]
    exact hw
