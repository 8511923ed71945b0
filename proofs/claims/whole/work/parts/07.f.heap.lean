/-! ===== instructions that read and write the cells ===== -/
theorem m2_ne {α : Type} {f : Nat → Int → α} {a b : Nat} {i : Int} {v : α} (h : b ≠ a) : m2 f a i v b = f b := by
  funext j
  unfold m2
  rw [if_neg (fun q => h q.1)]
theorem m2_at {α : Type} {f : Nat → Int → α} {a : Nat} {i j : Int} {v : α} : m2 f a i v a j = if j = i then v else f a j := by
  unfold m2
  by_cases h : j = i
  · rw [if_pos ⟨rfl, h⟩, if_pos h]
  · rw [if_neg (fun q => h q.2), if_neg h]
theorem m1_ne {α : Type} {f : Nat → Int → α} {a b : Nat} {g : Int → α} (h : b ≠ a) : m1 f a g b = f b := by
  funext j
  unfold m1
  rw [if_neg h]
theorem m1_at {α : Type} {f : Nat → Int → α} {a : Nat} {g : Int → α} : m1 f a g a = g := by
  funext j
  unfold m1
  rw [if_pos rfl]
theorem mShape_eq {M N : mMem} (h : N.1 = M.1) (a : Nat) : mShape N a = mShape M a := by unfold mShape; rw [h]
theorem mEntry_eq {ad : Nat → Nat} {cA : Nat → ClassId} {M N : mMem} {b : Nat} (h1 : mShape N b = mShape M b) (h2 : N.2.1 b = M.2.1 b) (h3 : N.2.2 b = M.2.2 b) : mEntry ad cA N b = mEntry ad cA M b := by
  have e1 : mArrI N b = mArrI M b := by unfold mArrI; rw [h2]
  have e2 : mArrJ N b = mArrJ M b := by unfold mArrJ; rw [h2]
  have e3 : mArrR ad N b = mArrR ad M b := by unfold mArrR; rw [h3]
  have e4 : ∀ ci n, mFs ad N b ci n = mFs ad M b ci n := fun ci n => by unfold mFs mFv; rw [h2, h3]
  unfold mEntry
  rw [h1]
  split <;> simp only [e1, e2, e3, e4]
theorem mWl_set {ad : Nat → Nat} {cA : Nat → ClassId} {M N : mMem} {a : Nat} {E : va_E} (h : N.1 = M.1) (ho : ∀ b, b ≠ a → N.2.1 b = M.2.1 b ∧ N.2.2 b = M.2.2 b) (hE : mEntry ad cA N a = E) : (mWl ad cA M).set a (ad a, E) = mWl ad cA N := by
  apply List.ext_getElem?
  intro b
  by_cases hb : b < M.1.length
  · have hb' : b < N.1.length := by rw [h]; exact hb
    rw [mWl_at hb']
    by_cases e : b = a
    · subst e
      have hl : b < (mWl ad cA M).length := by simp [mWl, hb]
      rw [List.getElem?_set_self hl, hE]
    · rw [List.getElem?_set_ne (Ne.symm e), mWl_at hb, mEntry_eq (mShape_eq h b) (ho b e).1 (ho b e).2]
  · have h1 : ((mWl ad cA M).set a (ad a, E))[b]? = none := by
      apply List.getElem?_eq_none
      rw [List.length_set]; simp [mWl]; omega
    have h2 : (mWl ad cA N)[b]? = none := by
      apply List.getElem?_eq_none
      simp [mWl, h]; omega
    rw [h1, h2]
theorem mOkM_set {M : mMem} {a : Nat} {i x : Int} (h : mOkM M) (h1 : w64 x = x) (h2 : mIsJ (mShape M a).1 i.toNat = false → w32 x = x) : mOkM (M.1, m2 M.2.1 a i x, M.2.2) := by
  intro b j
  show w64 (m2 M.2.1 a i x b j) = m2 M.2.1 a i x b j ∧ (mIsJ (mShape M b).1 j.toNat = false → w32 (m2 M.2.1 a i x b j) = m2 M.2.1 a i x b j)
  by_cases e : b = a ∧ j = i
  · obtain ⟨rfl, rfl⟩ := e
    have e1 : m2 M.2.1 b j x b j = x := by rw [m2_at, if_pos rfl]
    rw [e1]; exact ⟨h1, h2⟩
  · have e1 : m2 M.2.1 a i x b j = M.2.1 b j := by unfold m2; rw [if_neg e]
    rw [e1]; exact h b j
theorem mIsJ_arr {k : Nat} (i : Nat) (h : k < 5) (h1 : k ≠ 1) : mIsJ k i = false := by
  unfold mIsJ
  have e1 : Nat.beq k 1 = false := by cases hq : Nat.beq k 1 with | false => rfl | true => exact absurd (Nat.eq_of_beq_eq_true hq) h1
  have e2 : Nat.ble 10 k = false := by cases hq : Nat.ble 10 k with | false => rfl | true => exact absurd (Nat.le_of_ble_eq_true hq) (by omega)
  rw [e1, e2]; rfl
theorem mIsJ_obj {ci k : Nat} (h : mFk ci k ≠ 1) : mIsJ (10 + ci) k = false := by
  unfold mIsJ
  have e1 : Nat.beq (10 + ci) 1 = false := by cases hq : Nat.beq (10 + ci) 1 with | false => rfl | true => exact absurd (Nat.eq_of_beq_eq_true hq) (by omega)
  have e2 : Nat.beq (mFk (10 + ci - 10) k) 1 = false := by
    cases hq : Nat.beq (mFk (10 + ci - 10) k) 1 with
    | false => rfl
    | true => rw [Nat.add_sub_cancel_left] at hq; exact absurd (Nat.eq_of_beq_eq_true hq) h
  rw [e1, e2, Bool.and_false]; rfl
theorem upd_m2 {M : mMem} {a : Nat} {i x : Int} (hi : 0 ≤ i) : upd (mArrI M a) (Int32.ofInt i).toNatClampNeg (Int32.ofInt x) = mArrI (M.1, m2 M.2.1 a i x, M.2.2) a ∨ w32 i ≠ i := by
  by_cases hw : w32 i = i
  · left
    rw [o32_cl hw]
    funext j
    unfold upd mArrI
    show _ = Int32.ofInt (m2 M.2.1 a i x a j)
    rw [m2_at]
    by_cases e : j = i.toNat
    · rw [if_pos e, if_pos (by omega)]
    · rw [if_neg e, if_neg (by omega)]
  · exact Or.inr hw
theorem updL_m2 {M : mMem} {a : Nat} {i x : Int} (hi : 0 ≤ i) (hw : w32 i = i) : vp_updL (mArrJ M a) (Int32.ofInt i).toNatClampNeg (Int64.ofInt x) = mArrJ (M.1, m2 M.2.1 a i x, M.2.2) a := by
  rw [o32_cl hw]
  funext j
  unfold vp_updL mArrJ
  show _ = Int64.ofInt (m2 M.2.1 a i x a j)
  rw [m2_at]
  by_cases e : j = i.toNat
  · rw [if_pos e, if_pos (by omega)]
  · rw [if_neg e, if_neg (by omega)]
theorem marr_read {M : mMem} {a : Nat} {i : Int} (hi : 0 ≤ i) (hw : w32 i = i) : mArrI M a (Int32.ofInt i).toNatClampNeg = Int32.ofInt (M.2.1 a i) := by
  rw [o32_cl hw]
  unfold mArrI
  rw [Int.toNat_of_nonneg hi]
theorem arrJ_read {M : mMem} {a : Nat} {i : Int} (hi : 0 ≤ i) (hw : w32 i = i) : mArrJ M a (Int32.ofInt i).toNatClampNeg = Int64.ofInt (M.2.1 a i) := by
  rw [o32_cl hw]
  unfold mArrJ
  rw [Int.toNat_of_nonneg hi]
theorem arrR_read {ad : Nat → Nat} {M : mMem} {a : Nat} {i : Int} (hi : 0 ≤ i) (hw : w32 i = i) : mArrR ad M a (Int32.ofInt i).toNatClampNeg = (M.2.2 a i).map ad := by
  rw [o32_cl hw]
  unfold mArrR
  rw [Int.toNat_of_nonneg hi]
section MS3
variable {p : Program} {l : Launch} {e : Env} {R : Room} {s : State} {m : MethodId} {args : Array Value} {below : List Frame} {meth : Method} {c : Code} {Q : State → Prop} {D : va_G} {cA : Nat → ClassId} {ad : Nat → Nat} {base n0 s0 ml o kind : Nat} {bs : ByteArray} {pc : Nat} {ls : mLs} {st : List mV} {M : mMem}
theorem mRel_mu {H H1 : Heap} {locs locs1 : List Loc} {mu : Nat → Int → Int} (hR : mRel D cA ad base n0 s0 s M H locs) (hO : mOkM (M.1, mu, M.2.2)) (hP : va_P D vwCl (mWl ad cA (M.1, mu, M.2.2)) H1) (hD : va_D (mAd base) (mWl ad cA (M.1, mu, M.2.2))) (hS : va_S (mAd base) s.heap H1 locs1) : mRel D cA ad base n0 s0 s (M.1, mu, M.2.2) H1 locs1 := ⟨hR.1, hR.2.1, hR.2.2.1, hO, hP, hD, hS⟩
theorem ms_iaload (cx : mCx p s m args meth c o kind bs ml D cA ad base) {i : Int} {a : Nat} (ha : mArr M a 0 = true) (hi : 0 ≤ i ∧ i < (mShape M a).2) (hd : decode bs pc = .ok (.iaload, 1)) (k : mG p l e R s m args below meth c Q D cA ad base n0 s0 ml (pc + 1) ls (mI (M.2.1 a i) :: st) M) : mG p l e R s m args below meth c Q D cA ad base n0 s0 ml pc ls (mI i :: mP a :: st) M := by
  intro H locs lsA hR hs hl hL
  obtain ⟨hw, hs⟩ := mOkS_c.mp hs
  refine va_iald (i := Int32.ofInt i) cx.1 cx.2.1 cx.2.2.2.2.2.2.1 hR.2.2.2.2.1 a 0 (mE_0 ha) rfl (o32_in hw hi) hd ?_
  rw [marr_read hi.1 hw]
  exact k H locs lsA hR (mOkS_c.mpr ⟨(hR.2.2.2.1 a i).2 (by rw [(mArr_lt (by decide) ha).2]; rfl), (mOkS_c.mp hs).2⟩) hl hL
theorem ms_caload (cx : mCx p s m args meth c o kind bs ml D cA ad base) {i : Int} {a : Nat} (ha : mArr M a 2 = true) (hi : 0 ≤ i ∧ i < (mShape M a).2) (hd : decode bs pc = .ok (.caload, 1)) (k : mG p l e R s m args below meth c Q D cA ad base n0 s0 ml (pc + 1) ls (mI (M.2.1 a i) :: st) M) : mG p l e R s m args below meth c Q D cA ad base n0 s0 ml pc ls (mI i :: mP a :: st) M := by
  intro H locs lsA hR hs hl hL
  obtain ⟨hw, hs⟩ := mOkS_c.mp hs
  refine va_cald (i := Int32.ofInt i) cx.1 cx.2.1 cx.2.2.2.2.2.2.1 hR.2.2.2.2.1 a 2 (mE_2 ha) rfl (o32_in hw hi) hd ?_
  rw [marr_read hi.1 hw]
  exact k H locs lsA hR (mOkS_c.mpr ⟨(hR.2.2.2.1 a i).2 (by rw [(mArr_lt (by decide) ha).2]; rfl), (mOkS_c.mp hs).2⟩) hl hL
theorem ms_baload (cx : mCx p s m args meth c o kind bs ml D cA ad base) {i : Int} {a : Nat} (ha : mArr M a 3 = true) (hi : 0 ≤ i ∧ i < (mShape M a).2) (hd : decode bs pc = .ok (.baload, 1)) (k : mG p l e R s m args below meth c Q D cA ad base n0 s0 ml (pc + 1) ls (mI (M.2.1 a i) :: st) M) : mG p l e R s m args below meth c Q D cA ad base n0 s0 ml pc ls (mI i :: mP a :: st) M := by
  intro H locs lsA hR hs hl hL
  obtain ⟨hw, hs⟩ := mOkS_c.mp hs
  refine va_zald (i := Int32.ofInt i) cx.1 cx.2.1 cx.2.2.2.2.2.2.1 hR.2.2.2.2.1 a 3 (mE_3 ha) rfl (o32_in hw hi) hd ?_
  rw [marr_read hi.1 hw]
  exact k H locs lsA hR (mOkS_c.mpr ⟨(hR.2.2.2.1 a i).2 (by rw [(mArr_lt (by decide) ha).2]; rfl), (mOkS_c.mp hs).2⟩) hl hL
theorem ms_laload (cx : mCx p s m args meth c o kind bs ml D cA ad base) {i : Int} {a : Nat} (ha : mArr M a 1 = true) (hi : 0 ≤ i ∧ i < (mShape M a).2) (hd : decode bs pc = .ok (.laload, 1)) (k : mG p l e R s m args below meth c Q D cA ad base n0 s0 ml (pc + 1) ls (mJ (M.2.1 a i) :: st) M) : mG p l e R s m args below meth c Q D cA ad base n0 s0 ml pc ls (mI i :: mP a :: st) M := by
  intro H locs lsA hR hs hl hL
  obtain ⟨hw, hs⟩ := mOkS_c.mp hs
  refine va_lald (i := Int32.ofInt i) cx.1 cx.2.1 cx.2.2.2.2.2.2.1 hR.2.2.2.2.1 a 1 (mE_1 ha) rfl (o32_in hw hi) hd ?_
  rw [arrJ_read hi.1 hw]
  exact k H locs lsA hR (mOkS_c.mpr ⟨(hR.2.2.2.1 a i).1, (mOkS_c.mp hs).2⟩) hl hL
theorem ms_aaload (cx : mCx p s m args meth c o kind bs ml D cA ad base) {i : Int} {a x : Nat} (ha : mArr M a 4 = true) (hi : 0 ≤ i ∧ i < (mShape M a).2) (hx : M.2.2 a i = some x) (hd : decode bs pc = .ok (.aaload, 1)) (k : mG p l e R s m args below meth c Q D cA ad base n0 s0 ml (pc + 1) ls (mP x :: st) M) : mG p l e R s m args below meth c Q D cA ad base n0 s0 ml pc ls (mI i :: mP a :: st) M := by
  intro H locs lsA hR hs hl hL
  obtain ⟨hw, hs⟩ := mOkS_c.mp hs
  have hin := o32_in hw hi
  have hlt : (Int32.ofInt i).toNatClampNeg < (mShape M a).2 := Nat.not_le.mp fun q => hin (Or.inr q)
  refine W.aald (v := va_rf (mArrR ad M a (Int32.ofInt i).toNatClampNeg)) (ty := .array .int) cx.1 cx.2.1 (hR.2.2.2.2.1 a _ (mE_4 ha)) ((cx.2.2.2.2.2.2.1.2 4 _ rfl).1 _ (fun j => va_rf (mArrR ad M a j))) rfl (fun q => by cases q) (by show ¬ (_ < 0 ∨ (arrV _ _ _).slots.size ≤ _); rw [arrV_size]; exact hin) (by show (arrV _ _ _).slots[_]? = _; rw [arrV_read _ _ hlt]) rfl rfl hd ?_
  rw [arrR_read hi.1 hw, hx]
  exact k H locs lsA hR (mOkS_c.mpr ⟨trivial, (mOkS_c.mp hs).2⟩) hl hL
theorem ms_alen (cx : mCx p s m args meth c o kind bs ml D cA ad base) {a : Nat} (ha : (mShape M a).1 < 5) (hd : decode bs pc = .ok (.arraylength, 1)) (hlen : (mShape M a).2 < 2147483648) (k : mG p l e R s m args below meth c Q D cA ad base n0 s0 ml (pc + 1) ls (mI (mShape M a).2 :: st) M) : mG p l e R s m args below meth c Q D cA ad base n0 s0 ml pc ls (mP a :: st) M := by
  intro H locs lsA hR hs hl hL
  have k' := k H locs lsA hR (mOkS_c.mpr ⟨w32_id (by omega) (by omega), (mOkS_c.mp hs).2⟩) hl hL
  have hv : Int32.ofNat (mShape M a).2 = Int32.ofInt ((mShape M a).2 : Int) := rfl
  have h5 : (mShape M a).1 = 0 ∨ (mShape M a).1 = 1 ∨ (mShape M a).1 = 2 ∨ (mShape M a).1 = 3 ∨ (mShape M a).1 = 4 := by omega
  have mk : ∀ k, (mShape M a).1 = k → mArr M a k = true := fun k h => by unfold mArr; rw [h]; exact Nat.beq_refl k
  rcases h5 with h | h | h | h | h
  · exact va_alen cx.1 cx.2.1 cx.2.2.2.2.2.2.1 hR.2.2.2.2.1 a 0 (mE_0 (mk _ h)) (ty := .int) rfl hv hd k'
  · exact va_alen cx.1 cx.2.1 cx.2.2.2.2.2.2.1 hR.2.2.2.2.1 a 1 (mE_1 (mk _ h)) (ty := .long) rfl hv hd k'
  · exact va_alen cx.1 cx.2.1 cx.2.2.2.2.2.2.1 hR.2.2.2.2.1 a 2 (mE_2 (mk _ h)) (ty := .char) rfl hv hd k'
  · exact va_alen cx.1 cx.2.1 cx.2.2.2.2.2.2.1 hR.2.2.2.2.1 a 3 (mE_3 (mk _ h)) (ty := .boolean) rfl hv hd k'
  · exact va_alen cx.1 cx.2.1 cx.2.2.2.2.2.2.1 hR.2.2.2.2.1 a 4 (mE_4 (mk _ h)) (ty := .array .int) rfl hv hd k'
theorem ms_iastore (cx : mCx p s m args meth c o kind bs ml D cA ad base) {i x : Int} {a : Nat} (ha : mArr M a 0 = true) (hi : 0 ≤ i ∧ i < (mShape M a).2) (hd : decode bs pc = .ok (.iastore, 1)) (k : mG p l e R s m args below meth c Q D cA ad base n0 s0 ml (pc + 1) ls st (M.1, m2 M.2.1 a i x, M.2.2)) : mG p l e R s m args below meth c Q D cA ad base n0 s0 ml pc ls (mI x :: mI i :: mP a :: st) M := by
  intro H locs lsA hR hs hl hL
  obtain ⟨hx, hs⟩ := mOkS_c.mp hs
  obtain ⟨hw, hs⟩ := mOkS_c.mp hs
  have hk := (mArr_lt (by decide) ha).2
  refine va_iast (i := Int32.ofInt i) (x := Int32.ofInt x) cx.1 cx.2.1 cx.2.2.2.2.2.2.1 hR.2.2.2.2.1 hR.2.2.2.2.2.1 hR.2.2.2.2.2.2 a 0 (mE_0 ha) rfl (o32_in hw hi) hd (fun H1 locs1 hP hD hS => ?_)
  have hE : mEntry ad cA (M.1, m2 M.2.1 a i x, M.2.2) a = .inl (cA 0, (mShape M a).2, .inl (upd (mArrI M a) (Int32.ofInt i).toNatClampNeg (Int32.ofInt x))) := by
    have e := mE_0 (ad := ad) (cA := cA) (M := (M.1, m2 M.2.1 a i x, M.2.2)) (a := a) ha
    rw [mWl_at (M := (M.1, m2 M.2.1 a i x, M.2.2)) (mArr_lt (by decide) ha).1] at e
    rw [(upd_m2 hi.1).resolve_right (fun q => q hw)]
    exact (Prod.mk.inj (Option.some.inj e)).2
  rw [mWl_set (M := M) (N := (M.1, m2 M.2.1 a i x, M.2.2)) rfl (fun b hb => ⟨m2_ne hb, rfl⟩) hE] at hP hD
  exact k H1 locs1 lsA (mRel_mu hR (mOkM_set hR.2.2.2.1 (w64_w32 hx) (fun _ => hx)) hP hD hS) (mOkS_c.mp hs).2 hl hL
theorem ms_lastore (cx : mCx p s m args meth c o kind bs ml D cA ad base) {i x : Int} {a : Nat} (ha : mArr M a 1 = true) (hi : 0 ≤ i ∧ i < (mShape M a).2) (hd : decode bs pc = .ok (.lastore, 1)) (k : mG p l e R s m args below meth c Q D cA ad base n0 s0 ml (pc + 1) ls st (M.1, m2 M.2.1 a i x, M.2.2)) : mG p l e R s m args below meth c Q D cA ad base n0 s0 ml pc ls (mJ x :: mI i :: mP a :: st) M := by
  intro H locs lsA hR hs hl hL
  obtain ⟨hx, hs⟩ := mOkS_c.mp hs
  obtain ⟨hw, hs⟩ := mOkS_c.mp hs
  have hk := (mArr_lt (by decide) ha).2
  refine va_last (i := Int32.ofInt i) (x := Int64.ofInt x) cx.1 cx.2.1 cx.2.2.2.2.2.2.1 hR.2.2.2.2.1 hR.2.2.2.2.2.1 hR.2.2.2.2.2.2 a 1 (mE_1 ha) rfl (o32_in hw hi) hd (fun H1 locs1 hP hD hS => ?_)
  have hE : mEntry ad cA (M.1, m2 M.2.1 a i x, M.2.2) a = .inl (cA 1, (mShape M a).2, .inr (.inl (vp_updL (mArrJ M a) (Int32.ofInt i).toNatClampNeg (Int64.ofInt x)))) := by
    have e := mE_1 (ad := ad) (cA := cA) (M := (M.1, m2 M.2.1 a i x, M.2.2)) (a := a) ha
    rw [mWl_at (M := (M.1, m2 M.2.1 a i x, M.2.2)) (mArr_lt (by decide) ha).1] at e
    rw [updL_m2 hi.1 hw]
    exact (Prod.mk.inj (Option.some.inj e)).2
  rw [mWl_set (M := M) (N := (M.1, m2 M.2.1 a i x, M.2.2)) rfl (fun b hb => ⟨m2_ne hb, rfl⟩) hE] at hP hD
  exact k H1 locs1 lsA (mRel_mu hR (mOkM_set hR.2.2.2.1 hx (fun q => by rw [hk] at q; cases q)) hP hD hS) (mOkS_c.mp hs).2 hl hL
theorem nar_char {x : Int} (h : 0 ≤ x ∧ x < 128) : vp_nar .char (Int32.ofInt x) = Int32.ofInt x := by
  obtain ⟨n, rfl⟩ := Int.eq_ofNat_of_zero_le h.1
  have hn : n < 128 := by omega
  have : ∀ n : Nat, n < 128 → vp_nar .char (Int32.ofInt (n : Int)) = Int32.ofInt (n : Int) := by decide +kernel
  exact this n hn
theorem nar_bool {x : Int} (h : x = 0 ∨ x = 1) : vp_nar .boolean (Int32.ofInt x) = Int32.ofInt x := by
  rcases h with rfl | rfl <;> decide +kernel
theorem ms_castore (cx : mCx p s m args meth c o kind bs ml D cA ad base) {i x : Int} {a : Nat} (ha : mArr M a 2 = true) (hi : 0 ≤ i ∧ i < (mShape M a).2 ∧ 0 ≤ x ∧ x < 128) (hd : decode bs pc = .ok (.castore, 1)) (k : mG p l e R s m args below meth c Q D cA ad base n0 s0 ml (pc + 1) ls st (M.1, m2 M.2.1 a i x, M.2.2)) : mG p l e R s m args below meth c Q D cA ad base n0 s0 ml pc ls (mI x :: mI i :: mP a :: st) M := by
  intro H locs lsA hR hs hl hL
  obtain ⟨hx, hs⟩ := mOkS_c.mp hs
  obtain ⟨hw, hs⟩ := mOkS_c.mp hs
  have hk := (mArr_lt (by decide) ha).2
  refine va_cast (i := Int32.ofInt i) (x := Int32.ofInt x) cx.1 cx.2.1 cx.2.2.2.2.2.2.1 hR.2.2.2.2.1 hR.2.2.2.2.2.1 hR.2.2.2.2.2.2 a 2 (mE_2 ha) rfl (o32_in hw ⟨hi.1, hi.2.1⟩) hd (fun H1 locs1 hP hD hS => ?_)
  rw [nar_char hi.2.2] at hP hD
  have hE : mEntry ad cA (M.1, m2 M.2.1 a i x, M.2.2) a = .inl (cA 2, (mShape M a).2, .inl (upd (mArrI M a) (Int32.ofInt i).toNatClampNeg (Int32.ofInt x))) := by
    have e := mE_2 (ad := ad) (cA := cA) (M := (M.1, m2 M.2.1 a i x, M.2.2)) (a := a) ha
    rw [mWl_at (M := (M.1, m2 M.2.1 a i x, M.2.2)) (mArr_lt (by decide) ha).1] at e
    rw [(upd_m2 hi.1).resolve_right (fun q => q hw)]
    exact (Prod.mk.inj (Option.some.inj e)).2
  rw [mWl_set (M := M) (N := (M.1, m2 M.2.1 a i x, M.2.2)) rfl (fun b hb => ⟨m2_ne hb, rfl⟩) hE] at hP hD
  exact k H1 locs1 lsA (mRel_mu hR (mOkM_set hR.2.2.2.1 (w64_w32 hx) (fun _ => hx)) hP hD hS) (mOkS_c.mp hs).2 hl hL
theorem ms_bastore (cx : mCx p s m args meth c o kind bs ml D cA ad base) {i x : Int} {a : Nat} (ha : mArr M a 3 = true) (hi : 0 ≤ i ∧ i < (mShape M a).2 ∧ (x = 0 ∨ x = 1)) (hd : decode bs pc = .ok (.bastore, 1)) (k : mG p l e R s m args below meth c Q D cA ad base n0 s0 ml (pc + 1) ls st (M.1, m2 M.2.1 a i x, M.2.2)) : mG p l e R s m args below meth c Q D cA ad base n0 s0 ml pc ls (mI x :: mI i :: mP a :: st) M := by
  intro H locs lsA hR hs hl hL
  obtain ⟨hx, hs⟩ := mOkS_c.mp hs
  obtain ⟨hw, hs⟩ := mOkS_c.mp hs
  have hk := (mArr_lt (by decide) ha).2
  refine va_zast (i := Int32.ofInt i) (x := Int32.ofInt x) cx.1 cx.2.1 cx.2.2.2.2.2.2.1 hR.2.2.2.2.1 hR.2.2.2.2.2.1 hR.2.2.2.2.2.2 a 3 (mE_3 ha) rfl (o32_in hw ⟨hi.1, hi.2.1⟩) hd (fun H1 locs1 hP hD hS => ?_)
  rw [nar_bool hi.2.2] at hP hD
  have hE : mEntry ad cA (M.1, m2 M.2.1 a i x, M.2.2) a = .inl (cA 3, (mShape M a).2, .inl (upd (mArrI M a) (Int32.ofInt i).toNatClampNeg (Int32.ofInt x))) := by
    have e := mE_3 (ad := ad) (cA := cA) (M := (M.1, m2 M.2.1 a i x, M.2.2)) (a := a) ha
    rw [mWl_at (M := (M.1, m2 M.2.1 a i x, M.2.2)) (mArr_lt (by decide) ha).1] at e
    rw [(upd_m2 hi.1).resolve_right (fun q => q hw)]
    exact (Prod.mk.inj (Option.some.inj e)).2
  rw [mWl_set (M := M) (N := (M.1, m2 M.2.1 a i x, M.2.2)) rfl (fun b hb => ⟨m2_ne hb, rfl⟩) hE] at hP hD
  exact k H1 locs1 lsA (mRel_mu hR (mOkM_set hR.2.2.2.1 (w64_w32 hx) (fun _ => hx)) hP hD hS) (mOkS_c.mp hs).2 hl hL
end MS3
