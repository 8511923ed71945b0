set_option maxHeartbeats 4000000 in
/-- THE CLAIM OUT OF THE PURE STATEMENT -/
theorem law_start (hp : lawPure) {p : Program} {e : Env} {s : State} {m : MethodId} {below : List Frame} {meth : Method} {c : Code} (l : Launch) {b L : Nat} {xs : Nat → Int32} (hL : L ≤ 3072) (C0 : lw_At p s m meth c b L xs) : W p l e room_1 s m #[Value.ref b] below meth c s.heap [] 0 0 (lw_Z below #[Value.ref b] s) (entryFrame m ([Value.ref b] : List Value).toArray 4) := by
  obtain ⟨hx, hb, hr, hml, hown, hts, hX, hbl, hlocks, hgv⟩ := C0
  obtain ⟨D, cA, hK⟩ := law_K hts
  obtain ⟨tM, tN, tS, hE⟩ := law_ext hts hgv b
  obtain ⟨M, ⟨n, hrun⟩, hM1, hM2⟩ := hp L (fun i => (xs i.toNat).toInt) hL (fun i => t32_w32 _)
  have had : ∀ a, a < 1000 → lawAd s.heap.size tM tN tS b a = s.heap.size + a := fun a ha => by unfold lawAd; rw [if_pos ha]
  have hadb : lawAd s.heap.size tM tN tS b 1003 = b := by unfold lawAd; simp
  generalize lawAd s.heap.size tM tN tS b = ad at hE had hadb
  have cx : mCx p s m #[Value.ref b] meth c 11 0 code 4 D cA ad s.heap.size := ⟨hx, hb, hml, hown, fun w hw => hts w (List.mem_filter.mp hw).1, fun w hw hn => by
    have h := hts w hw
    cases w <;> first | (cases hn; done) | exact va_Nw.of rfl h, hK, (fun h => by cases h), hE⟩
  have hbA : ¬ mAd s.heap.size b := fun q => absurd (show s.heap.size ≤ b from q) (by omega)
  have E : mEnv p l e room_1 s m #[Value.ref b] below meth c (lw_Z below #[Value.ref b] s) D cA ad s.heap.size 0 0 4 11 0 code (some .boolean) 1000 (lawO L (fun i => (xs i.toNat).toInt)) (1, M) := by
    refine ⟨cx, had, rfl, law_snd had, (by decide), (by decide), hM1, (by show M.1.length - 0 ≤ 600000; omega), (by show mSl M - 0 ≤ 7302250; omega), (by show mSl M < _; omega), ?_, ?_, ?_, (fun _ _ _ _ _ h => by cases h)⟩
    · intro pc ls st v M' hres hend H locs lsA hR hs hl hL'
      cases hres
      rcases hend with ⟨h, -⟩ | ⟨h, -⟩ | ⟨-, rfl, -, hd⟩ | ⟨h, -⟩
      · cases h
      · cases h
      · refine va_forget (fun q hq => hR.2.2.2.2.2.2.2.2 q hq) ?_
        refine W.widen (k := 600000) (n := 7302250) (by omega) (by omega) ?_
        exact lw_ret hx hb hr hlocks hd
      · cases h
    · intro pc ls st M' i x h hd k H locs lsA hR hs hl hL'
      obtain ⟨hi, rfl⟩ := law_sr h
      obtain ⟨hw, hs⟩ := mOkS_c.mp hs
      have hs := (mOkS_c.mp hs).2
      have k' := k H locs lsA hR (mOkS_c.mpr ⟨t32_w32 _, hs⟩) hl hL'
      have e1 : ((mI i :: mP 1003 :: st).map (mCv ad)) = .int (Int32.ofInt i) :: .ref b :: st.map (mCv ad) := by
        show Value.int (Int32.ofInt i) :: Value.ref (ad 1003) :: _ = _
        rw [hadb]
      rw [e1]
      refine va_sld hx hb hX hbl hbA hR.2.2.2.2.2.2 (o32_in hw hi) hd ?_
      rw [o32_cl hw]
      have e2 : (mI ((xs i.toNat).toInt) :: st).map (mCv ad) = .int (xs i.toNat) :: st.map (mCv ad) := by
        show Value.int (Int32.ofInt (xs i.toNat).toInt) :: _ = _
        rw [o32_t]
      rw [e2] at k'
      exact k'
    · intro pc ls st M' x h hd k H locs lsA hR hs hl hL'
      have hx2 := law_sl h
      subst hx2
      have hs := (mOkS_c.mp hs).2
      have k' := k H locs lsA hR (mOkS_c.mpr ⟨(show w32 (L : Int) = L from w32_id (by omega) (by omega)), hs⟩) hl hL'
      have e1 : ((mP 1003 :: st).map (mCv ad)) = .ref b :: st.map (mCv ad) := by
        show Value.ref (ad 1003) :: _ = _
        rw [hadb]
      rw [e1]
      exact va_slen hx hb hX hbl hbA hR.2.2.2.2.2.2 hd k'
  have hg := mRun_sound E law_cod n _ _ _ _ hrun
  have hw := hg s.heap [] (lg_sl (([mP 1003] : List mV).map (mCv ad)) ++ List.replicate (4 - (lg_sl (([mP 1003] : List mV).map (mCv ad))).length) Slot.unset).toArray ⟨Nat.zero_le _, Nat.zero_le _, (fun a ha => absurd ha (by show ¬ a < 0; omega)), (fun a i => ⟨by show w64 0 = 0; decide, fun _ => by show w32 0 = 0; decide⟩), (fun k q hq => by simp [mWl, mEmp] at hq), ⟨fun i j p q hp => by simp [mWl, mEmp] at hp, fun k q hq => by simp [mWl, mEmp] at hq⟩, va_S.rf⟩ (fun _ q => by cases q) (fun i v hv => mIni_ok (as := [mP 1003]) (fun v hv => by
    rcases List.mem_cons.mp hv with rfl | hv
    · trivial
    · cases hv) i v (mIni_at (n := 4) hv)) (mLR_ini (as := [mP 1003]) (n := 4) (by decide))
  have e3 : ([mP 1003] : List mV).map (mCv ad) = [Value.ref b] := by
    show [Value.ref (ad 1003)] = _
    rw [hadb]
  rw [e3] at hw
  rw [lg_entry_eq]
  exact hw
