/-! ===== new arrays; arraycopy ===== -/
section MS6
variable {p : Program} {l : Launch} {e : Env} {R : Room} {s : State} {m : MethodId} {args : Array Value} {below : List Frame} {meth : Method} {c : Code} {Q : State → Prop} {D : va_G} {cA : Nat → ClassId} {ad : Nat → Nat} {base n0 s0 ml o kind : Nat} {bs : ByteArray} {pc : Nat} {ls : mLs} {st : List mV} {M : mMem}
theorem ms_newarr (cx : mCx p s m args meth c o kind bs ml D cA ad base) (had : ∀ a, a < 1000 → ad a = base + a) (hn0 : s.heap.size = base + n0) {t : ArrayType} {k : Nat} {n : Int} (hk : k < 4) (hty : (mTys cA)[k]? = some (cA k, newarray.typeOf t)) (hra : ∀ cB, va_RA s cB (newarray.typeOf t) → cB = cA k) (harr : Cond.arrayClass (newarray.typeOf t) ∈ mGW) (hcomp : componentBytes (newarray.typeOf t) ≤ 8) (hN : 0 ≤ n ∧ n < 100000)
    (hE : ∀ N : mMem, mShape N M.1.length = (k, n.toNat) → N.2.1 M.1.length = (fun _ => 0) → ∃ a0 : vp_A, mEntry ad cA N M.1.length = .inl (cA k, a0) ∧ ∀ cB : ClassId, vp_cell cB a0 = arrV cB n.toNat (fun _ => defaultValue (newarray.typeOf t)))
    (hn : M.1.length < 1000) (hRc : M.1.length - n0 + 1 ≤ R.cells) (hRs : mSl M - s0 + n.toNat ≤ R.slots) (hd : decode bs pc = .ok (.newarray t, 2)) (kk : mG p l e R s m args below meth c Q D cA ad base n0 s0 ml (pc + 2) ls (mP M.1.length :: st) (mNew M k n.toNat)) : mG p l e R s m args below meth c Q D cA ad base n0 s0 ml pc ls (mI n :: st) M := by
  intro H locs lsA hR hs hl hL
  obtain ⟨hw, hs⟩ := mOkS_c.mp hs
  obtain ⟨a0, hE1, hE2⟩ := hE (mNew M k n.toNat) mShape_last m1_at
  refine va_newa (n := Int32.ofInt n) (N' := n.toNat) (a0 := a0) cx.1 cx.2.1 (cx.2.2.2.2.1 _ harr) rfl cx.2.2.2.2.2.2.1 hR.2.2.2.2.1 hR.2.2.2.2.2.1 hR.2.2.2.2.2.2 (fun q h => by show base ≤ q; omega) hE2 (fun h => by rw [← o32_0, o32_lt hw w32_0] at h; omega) (o32_cl hw) (Nat.le_trans (Nat.mul_le_mul (show n.toNat ≤ 100000 by omega) hcomp) (by decide)) hRc hRs hd (fun q cB H1 hK hP hD hS => ?_)
  refine mW_size fun hz => ?_
  have hq : q = ad M.1.length := new_at had hn hP hD (by have := hR.1; omega)
  have hcB : cB = cA k := hra cB (hK.2 5 (cB, newarray.typeOf t) rfl).2
  subst hcB
  subst hq
  rw [← hE1, ← mWl_new] at hP hD
  have e2 : (mNew M k n.toNat).1.length = M.1.length + 1 := by simp [mNew]
  have e3 : mSl (mNew M k n.toNat) = mSl M + n.toNat := by simp [mNew, mSl]
  have k' := kk H1 locs lsA ⟨by rw [e2]; have := hR.1; omega, by rw [e3]; have := hR.2.1; omega, mShOk_new hR.2.2.1 (Or.inl (by omega)), mOkM_new hR.2.2.2.1, hP, hD, hS⟩ (mOkS_c.mpr ⟨trivial, hs⟩) hl hL
  rw [e2, e3, show M.1.length + 1 - n0 = M.1.length - n0 + 1 by have := hR.1; omega, show mSl M + n.toNat - s0 = mSl M - s0 + n.toNat by have := hR.2.1; omega] at k'
  exact k'
theorem ra_int (cx : mCx p s m args meth c o kind bs ml D cA ad base) (cB : ClassId) (h : va_RA s cB .int) : cB = cA 0 := Option.some.inj (h.symm.trans (cx.2.2.2.2.2.2.1.2 0 _ rfl).2)
theorem ra_long (cx : mCx p s m args meth c o kind bs ml D cA ad base) (cB : ClassId) (h : va_RA s cB .long) : cB = cA 1 := Option.some.inj (h.symm.trans (cx.2.2.2.2.2.2.1.2 1 _ rfl).2)
theorem ra_char (cx : mCx p s m args meth c o kind bs ml D cA ad base) (cB : ClassId) (h : va_RA s cB .char) : cB = cA 2 := Option.some.inj (h.symm.trans (cx.2.2.2.2.2.2.1.2 2 _ rfl).2)
theorem ra_bool (cx : mCx p s m args meth c o kind bs ml D cA ad base) (cB : ClassId) (h : va_RA s cB .boolean) : cB = cA 3 := Option.some.inj (h.symm.trans (cx.2.2.2.2.2.2.1.2 3 _ rfl).2)
theorem ra_grid (cx : mCx p s m args meth c o kind bs ml D cA ad base) (cB : ClassId) (h : va_RA s cB (.array .int)) : cB = cA 4 := Option.some.inj (h.symm.trans (cx.2.2.2.2.2.2.1.2 4 _ rfl).2)
theorem ms_newI (cx : mCx p s m args meth c o kind bs ml D cA ad base) (had : ∀ a, a < 1000 → ad a = base + a) (hn0 : s.heap.size = base + n0) {n : Int} (hN : 0 ≤ n ∧ n < 100000) (hn : M.1.length < 1000) (hRc : M.1.length - n0 + 1 ≤ R.cells) (hRs : mSl M - s0 + n.toNat ≤ R.slots) (hd : decode bs pc = .ok (.newarray .int, 2)) (kk : mG p l e R s m args below meth c Q D cA ad base n0 s0 ml (pc + 2) ls (mP M.1.length :: st) (mNew M 0 n.toNat)) : mG p l e R s m args below meth c Q D cA ad base n0 s0 ml pc ls (mI n :: st) M :=
  ms_newarr (t := .int) (k := 0) cx had hn0 (by decide) rfl (ra_int cx) (mGW_of ⟨by decide +kernel, by decide +kernel⟩) (by decide) hN (fun N h1 h2 => ⟨(n.toNat, .inl (fun _ => 0)), by have e0 : mArrI N M.1.length = (fun _ => 0) := by { unfold mArrI; rw [h2]; rfl }; unfold mEntry; rw [h1]; simp only [e0], fun _ => rfl⟩) hn hRc hRs hd kk
theorem ms_newJ (cx : mCx p s m args meth c o kind bs ml D cA ad base) (had : ∀ a, a < 1000 → ad a = base + a) (hn0 : s.heap.size = base + n0) {n : Int} (hN : 0 ≤ n ∧ n < 100000) (hn : M.1.length < 1000) (hRc : M.1.length - n0 + 1 ≤ R.cells) (hRs : mSl M - s0 + n.toNat ≤ R.slots) (hd : decode bs pc = .ok (.newarray .long, 2)) (kk : mG p l e R s m args below meth c Q D cA ad base n0 s0 ml (pc + 2) ls (mP M.1.length :: st) (mNew M 1 n.toNat)) : mG p l e R s m args below meth c Q D cA ad base n0 s0 ml pc ls (mI n :: st) M :=
  ms_newarr (t := .long) (k := 1) cx had hn0 (by decide) rfl (ra_long cx) (mGW_of ⟨by decide +kernel, by decide +kernel⟩) (by decide) hN (fun N h1 h2 => ⟨(n.toNat, .inr (.inl (fun _ => 0))), by have e0 : mArrJ N M.1.length = (fun _ => 0) := by { unfold mArrJ; rw [h2]; rfl }; unfold mEntry; rw [h1]; simp only [e0], fun _ => rfl⟩) hn hRc hRs hd kk
theorem ms_newC (cx : mCx p s m args meth c o kind bs ml D cA ad base) (had : ∀ a, a < 1000 → ad a = base + a) (hn0 : s.heap.size = base + n0) {n : Int} (hN : 0 ≤ n ∧ n < 100000) (hn : M.1.length < 1000) (hRc : M.1.length - n0 + 1 ≤ R.cells) (hRs : mSl M - s0 + n.toNat ≤ R.slots) (hd : decode bs pc = .ok (.newarray .char, 2)) (kk : mG p l e R s m args below meth c Q D cA ad base n0 s0 ml (pc + 2) ls (mP M.1.length :: st) (mNew M 2 n.toNat)) : mG p l e R s m args below meth c Q D cA ad base n0 s0 ml pc ls (mI n :: st) M :=
  ms_newarr (t := .char) (k := 2) cx had hn0 (by decide) rfl (ra_char cx) (mGW_of ⟨by decide +kernel, by decide +kernel⟩) (by decide) hN (fun N h1 h2 => ⟨(n.toNat, .inl (fun _ => 0)), by have e0 : mArrI N M.1.length = (fun _ => 0) := by { unfold mArrI; rw [h2]; rfl }; unfold mEntry; rw [h1]; simp only [e0], fun _ => rfl⟩) hn hRc hRs hd kk
theorem ms_newZ (cx : mCx p s m args meth c o kind bs ml D cA ad base) (had : ∀ a, a < 1000 → ad a = base + a) (hn0 : s.heap.size = base + n0) {n : Int} (hN : 0 ≤ n ∧ n < 100000) (hn : M.1.length < 1000) (hRc : M.1.length - n0 + 1 ≤ R.cells) (hRs : mSl M - s0 + n.toNat ≤ R.slots) (hd : decode bs pc = .ok (.newarray .boolean, 2)) (kk : mG p l e R s m args below meth c Q D cA ad base n0 s0 ml (pc + 2) ls (mP M.1.length :: st) (mNew M 3 n.toNat)) : mG p l e R s m args below meth c Q D cA ad base n0 s0 ml pc ls (mI n :: st) M :=
  ms_newarr (t := .boolean) (k := 3) cx had hn0 (by decide) rfl (ra_bool cx) (mGW_of ⟨by decide +kernel, by decide +kernel⟩) (by decide) hN (fun N h1 h2 => ⟨(n.toNat, .inl (fun _ => 0)), by have e0 : mArrI N M.1.length = (fun _ => 0) := by { unfold mArrI; rw [h2]; rfl }; unfold mEntry; rw [h1]; simp only [e0], fun _ => rfl⟩) hn hRc hRs hd kk
theorem cpy_m {f g : Nat → Int → Int} {a d : Nat} {sp dp n : Int} (h : 0 ≤ sp ∧ 0 ≤ dp ∧ 0 ≤ n) (j : Nat) : va_cpy (fun j => Int32.ofInt (f a (j : Nat))) (fun j => Int32.ofInt (f d (j : Nat))) sp.toNat dp.toNat n.toNat j = Int32.ofInt (mCpy (f a) (f d) sp dp n j) := by
  unfold va_cpy mCpy
  by_cases q : dp.toNat ≤ j ∧ j < dp.toNat + n.toNat
  · rw [if_pos q, if_pos (by omega)]
    have e : ((sp.toNat + (j - dp.toNat) : Nat) : Int) = sp + ((j : Int) - dp) := by omega
    show Int32.ofInt (f a ((sp.toNat + (j - dp.toNat) : Nat) : Int)) = _
    rw [e]
  · rw [if_neg q, if_neg (by omega)]
theorem mOkM_cell {M : mMem} {a : Nat} {g : Int → Int} (h : mOkM M) (h1 : ∀ j, w64 (g j) = g j ∧ w32 (g j) = g j) : mOkM (M.1, m1 M.2.1 a g, M.2.2) := by
  intro b j
  show w64 (m1 M.2.1 a g b j) = m1 M.2.1 a g b j ∧ (mIsJ (mShape M b).1 j.toNat = false → w32 (m1 M.2.1 a g b j) = m1 M.2.1 a g b j)
  by_cases q : b = a
  · subst q; rw [m1_at]; exact ⟨(h1 j).1, fun _ => (h1 j).2⟩
  · rw [m1_ne q]; exact h b j
theorem ms_copy (cx : mCx p s m args meth c o kind bs ml D cA ad base) {i a d : Nat} {n sp dp : Int} (hlk : mHas3 aT o i = true) (ha : mArr M a 0 = true) (hdd : mArr M d 0 = true) (hb : 0 ≤ n ∧ 0 ≤ sp ∧ 0 ≤ dp ∧ sp + n ≤ (mShape M a).2 ∧ dp + n ≤ (mShape M d).2) (hRf : 1 ≤ R.frames) (hst : st.length ≤ 4) (hRl : 100 ≤ R.locals) (hd : decode bs pc = .ok (.invokestatic i, 3)) (kk : mG p l e R s m args below meth c Q D cA ad base n0 s0 ml (pc + 3) ls st (M.1, mCp M.2.1 a d sp dp n, M.2.2)) : mG p l e R s m args below meth c Q D cA ad base n0 s0 ml pc ls (mI n :: mI dp :: mP d :: mI sp :: mP a :: st) M := by
  intro H locs lsA hR hs hl hL
  obtain ⟨hn, hs⟩ := mOkS_c.mp hs
  obtain ⟨hdp, hs⟩ := mOkS_c.mp hs
  have hs := (mOkS_c.mp hs).2
  obtain ⟨hsp, hs⟩ := mOkS_c.mp hs
  have hs := (mOkS_c.mp hs).2
  have nn : ∀ {x : Int}, w32 x = x → 0 ≤ x → ¬ Int32.ofInt x < 0 := fun hw h q => by rw [← o32_0, o32_lt hw w32_0] at q; omega
  have hcat : ((st.map (mCv ad)).map fun v => v.category).sum ≤ 8 := by
    have : ∀ st : List mV, ((st.map (mCv ad)).map fun v => v.category).sum ≤ 2 * st.length := by
      intro st
      induction st with
      | nil => simp
      | cons v r ih =>
        simp only [List.map_cons, List.sum_cons, List.length_cons]
        have : (mCv ad v).category ≤ 2 := by unfold Value.category; split <;> omega
        omega
    have := this st
    omega
  refine va_copyi (sp := Int32.ofInt sp) (dp := Int32.ofInt dp) (n := Int32.ofInt n) cx.1 cx.2.1 (by rw [cx.2.2.1]; exact hL.2.1.symm) cx.2.2.2.1 (cx.2.2.2.2.1 _ (aT_at hlk)) (cx.2.2.2.2.1 (.native arraycopyName) (mGW_of ⟨by decide +kernel, by decide +kernel⟩)) (cx.2.2.2.2.1 (.static arraycopyName) (mGW_of ⟨by decide +kernel, by decide +kernel⟩)) (cx.2.2.2.2.1 (.initialized "java/lang/System") (mGW_of ⟨by decide +kernel, by decide +kernel⟩)) cx.2.2.2.2.2.2.1 hR.2.2.2.2.1 hR.2.2.2.2.2.1 hR.2.2.2.2.2.2 a d 0 0 (mE_0 ha) (mE_0 hdd) (ty := .int) rfl rfl rfl (nn hsp hb.2.1) (nn hdp hb.2.2.1) (nn hn hb.1) ?_ ?_ (fun _ _ => rfl) hRf ?_ hd (fun H1 locs1 hP hD hS => ?_)
  · rw [o32_cl hsp, o32_cl hn]; omega
  · rw [o32_cl hdp, o32_cl hn]; omega
  · have : nativeFrameWords "java/lang/System" "arraycopy" 5 + 11 ≤ 90 := by decide
    omega
  · have hE : mEntry ad cA (M.1, mCp M.2.1 a d sp dp n, M.2.2) d = .inl (cA 0, (mShape M d).2, .inl (va_cpy (mArrI M a) (mArrI M d) (Int32.ofInt sp).toNatClampNeg (Int32.ofInt dp).toNatClampNeg (Int32.ofInt n).toNatClampNeg)) := by
      have e1 := mE_0 (ad := ad) (cA := cA) (M := (M.1, mCp M.2.1 a d sp dp n, M.2.2)) (a := d) hdd
      rw [mWl_at (M := (M.1, mCp M.2.1 a d sp dp n, M.2.2)) (mArr_lt (by decide) hdd).1] at e1
      have e2 : mArrI (M.1, mCp M.2.1 a d sp dp n, M.2.2) d = va_cpy (mArrI M a) (mArrI M d) (Int32.ofInt sp).toNatClampNeg (Int32.ofInt dp).toNatClampNeg (Int32.ofInt n).toNatClampNeg := by
        rw [o32_cl hsp, o32_cl hdp, o32_cl hn]
        funext j
        have e3 := cpy_m (f := M.2.1) (g := M.2.1) (a := a) (d := d) (sp := sp) (dp := dp) (n := n) ⟨hb.2.1, hb.2.2.1, hb.1⟩ j
        show Int32.ofInt (mCp M.2.1 a d sp dp n d j) = _
        unfold mCp
        rw [m1_at]
        exact e3.symm
      rw [← e2]
      exact (Prod.mk.inj (Option.some.inj e1)).2
    rw [mWl_set (M := M) (N := (M.1, mCp M.2.1 a d sp dp n, M.2.2)) rfl (fun b hb => ⟨m1_ne hb, rfl⟩) hE] at hP hD
    refine kk H1 locs1 lsA (mRel_mu hR (mOkM_cell hR.2.2.2.1 ?_) hP hD hS) hs hl hL
    have z : ∀ b, mArr M b 0 = true → ∀ j, w64 (M.2.1 b j) = M.2.1 b j ∧ w32 (M.2.1 b j) = M.2.1 b j := fun b hb j => ⟨(hR.2.2.2.1 b j).1, (hR.2.2.2.1 b j).2 (by rw [(mArr_lt (by decide) hb).2]; rfl)⟩
    intro j
    unfold mCpy
    split
    · exact z a ha _
    · exact z d hdd _
end MS6
