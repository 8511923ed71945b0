/-! ===== charAt of the constant text ===== -/
def pQ (v : Option Value) : Array Value → State → Outcome → State → Prop := fun _ st oc t => oc = .returned v ∧ t.heap = st.heap
def pRm (k : Nat) : Room := { frames := k, cells := 0, slots := 0, locals := 40 * k }
def pW (y : MethodName) (bs : ByteArray) (ml : Nat) (ret : Option FieldType) : List Cond := Cond.code y bs ml ret :: mGW
theorem jw_1 : Cond.code yJ3_checkIndex_8e157 cJ3_checkIndex_8e157 3 (some .int) ∈ mGW := mGW_of ⟨by decide +kernel, by decide +kernel⟩
theorem jw_2 : Cond.code yJ0_checkIndex_df160 cJ0_checkIndex_df160 2 none ∈ mGW := mGW_of ⟨by decide +kernel, by decide +kernel⟩
theorem jw_3 : Cond.code yJ1_charAt_3b067 cJ1_charAt_3b067 2 (some .char) ∈ mGW := mGW_of ⟨by decide +kernel, by decide +kernel⟩
theorem jw_4 : Cond.code yJ0_isLatin1_aae02 cJ0_isLatin1_aae02 1 (some .boolean) ∈ mGW := mGW_of ⟨by decide +kernel, by decide +kernel⟩
theorem jw_5 : Cond.code yJ0_charAt_5068e cJ0_charAt_5068e 2 (some .char) ∈ mGW := mGW_of ⟨by decide +kernel, by decide +kernel⟩
theorem jw_i0 : Cond.initialized "java/lang/String" ∈ mGW := mGW_of ⟨by decide +kernel, by decide +kernel⟩
theorem jw_i1 : Cond.initialized "java/lang/StringLatin1" ∈ mGW := mGW_of ⟨by decide +kernel, by decide +kernel⟩
theorem jw_i3 : Cond.initialized "jdk/internal/util/Preconditions" ∈ mGW := mGW_of ⟨by decide +kernel, by decide +kernel⟩
theorem jw_s3 : Cond.static yJ3_checkIndex_8e157 ∈ mGW := mGW_of ⟨by decide +kernel, by decide +kernel⟩
theorem jw_s2 : Cond.static yJ0_checkIndex_df160 ∈ mGW := mGW_of ⟨by decide +kernel, by decide +kernel⟩
theorem jw_s1 : Cond.static yJ1_charAt_3b067 ∈ mGW := mGW_of ⟨by decide +kernel, by decide +kernel⟩
theorem jw_l1 : Cond.methodLink "java/lang/String" 1059 yJ3_checkIndex_8e157 ∈ mGW := mGW_of ⟨by decide +kernel, by decide +kernel⟩
theorem jw_l2 : Cond.methodLink "java/lang/StringLatin1" 9 yJ0_checkIndex_df160 ∈ mGW := mGW_of ⟨by decide +kernel, by decide +kernel⟩
theorem jw_l3 : Cond.methodLink "java/lang/String" 495 yJ1_charAt_3b067 ∈ mGW := mGW_of ⟨by decide +kernel, by decide +kernel⟩
theorem jw_l4 : Cond.methodLink "java/lang/String" 492 yJ0_isLatin1_aae02 ∈ mGW := mGW_of ⟨by decide +kernel, by decide +kernel⟩
theorem jw_l5 : Cond.methodLink (mCN 4) 201 yJ0_charAt_5068e ∈ mGW := mGW_of ⟨by decide +kernel, by decide +kernel⟩
theorem jw_n4 : Cond.instanceMethod yJ0_isLatin1_aae02 ∈ mGW ∧ Cond.selects "java/lang/String" yJ0_isLatin1_aae02 yJ0_isLatin1_aae02 ∈ mGW := ⟨mGW_of ⟨by decide +kernel, by decide +kernel⟩, mGW_of ⟨by decide +kernel, by decide +kernel⟩⟩
theorem jw_n5 : Cond.instanceMethod yJ0_charAt_5068e ∈ mGW ∧ Cond.selects "java/lang/String" yJ0_charAt_5068e yJ0_charAt_5068e ∈ mGW := ⟨mGW_of ⟨by decide +kernel, by decide +kernel⟩, mGW_of ⟨by decide +kernel, by decide +kernel⟩⟩
theorem jw_f1 : Cond.fieldLink "java/lang/String" 1053 "jdk/internal/util/Preconditions" "SIOOBE_FORMATTER" "Ljava/util/function/BiFunction;" ∈ mGW := mGW_of ⟨by decide +kernel, by decide +kernel⟩
theorem jw_f2 : Cond.fieldLink "java/lang/String" 38 "java/lang/String" "COMPACT_STRINGS" "Z" ∈ mGW := mGW_of ⟨by decide +kernel, by decide +kernel⟩
theorem jw_f3 : Cond.fieldLink "java/lang/String" 15 "java/lang/String" "coder" "B" ∈ mGW := mGW_of ⟨by decide +kernel, by decide +kernel⟩
theorem jw_f4 : Cond.fieldLink "java/lang/String" 9 "java/lang/String" "value" "[B" ∈ mGW := mGW_of ⟨by decide +kernel, by decide +kernel⟩
section PU
variable {p : Program} {l : Launch} {e : Env} {R : Room} {s : State} {m : MethodId} {args : Array Value} {below : List Frame} {meth : Method} {c : Code} {H : Heap} {locs : List Loc} {cells slots : Nat} {Q : State → Prop} {g : JFrame} {rest : List Value} {a : Array Value}
theorem pu_call {v0 : Option Value} (hr : va_Run p l e R s m args below meth c H locs cells slots 0 0 g rest (pQ v0 a) (fun _ => False)) (kk : W p l e R s m args below meth c H locs cells slots Q { g with pc := g.pc + 3, stack := v0.toList ++ rest }) : W p l e R s m args below meth c H locs cells slots Q g := by
  intro T hT X
  obtain ⟨v, st₀, t, T', L, h0, X', hL, e1, e2, ⟨hv, hh⟩, st⟩ := hr T hT X
  cases hv
  obtain ⟨t2, a1, b1⟩ := kk T' (by rw [e1, hh, h0]) (Stand.forget X' (fun q h => (hL q h).elim))
  exact ⟨t2, st t2 a1, b1⟩
theorem pPre_blind {ad : Nat → Nat} {base : Nat} {av : List Value} : FrameBlind (va_Pc av (mExt ad base)) := by
  intro a U g mk q
  exact ⟨q.1, mExt_moved (u := U) (U := U.calling g mk a) (Vm.Alike.refl U.vm) rfl (vk_R.same (u := U) (U := U.calling g mk a) rfl q.2.2.2.2.2.1) q.2⟩
theorem pPre_S {ad : Nat → Nat} {base : Nat} {av : List Value} (hS : va_S (mAd base) s.heap H locs) (hE : mExt ad base s) : PreS s H (va_Pc av (mExt ad base)) av := ⟨pPre_blind, fun U hU hW => ⟨rfl, mExt_heap hW hU hS hE⟩⟩
end PU
set_option maxHeartbeats 4000000 in
theorem pm_check3 (l : Launch) (ad : Nat → Nat) (base : Nat) (i n : Int32) (r : Option Nat) (h1 : ¬ i < 0) (h2 : i < n) : Met l yJ3_checkIndex_8e157 (pW yJ3_checkIndex_8e157 cJ3_checkIndex_8e157 3 (some .int)) (pRm 1) (va_Pc [.int i, .int n, va_rf r] (mExt ad base)) (pQ (some (.int i))) 0 0 (fun _ => False) := by
  refine va_MetF (cc := cJ3_checkIndex_8e157) (maxL := 3) (ret := some .int) (by decide +kernel) rfl ?_
  intro p e s m args below meth c s₁ B hml hv
  obtain ⟨rfl, hE⟩ := hv
  have hx := B.exec
  have hb := B.bytes
  have hr := B.returns
  have hlocks := B.notSynchronized
  have hl := lv_entry ([.int i, .int n, va_rf r]) (n := 3) (by cases r <;> exact Nat.le_of_ble_eq_true rfl)
  rw [lg_entry_eq]
  generalize (lg_sl ([.int i, .int n, va_rf r]) ++ List.replicate (3 - (lg_sl ([.int i, .int n, va_rf r])).length) Slot.unset).toArray = ls at hl ⊢
  have hl : lv_has ls 3 [(0, .int i), (1, .int n)] := lv_has_sub hl (fun q hq => by
    simp only [List.mem_cons, List.not_mem_nil, or_false] at hq
    rcases hq with rfl | rfl
    · exact List.mem_cons_self
    · exact List.mem_cons_of_mem _ List.mem_cons_self)
  refine lv_iload_n hx hb dJ3_checkIndex_8e157_0 rfl (lv_at hl 0 rfl) ?_
  refine lv_if_lt (tgt := 9) hx hb dJ3_checkIndex_8e157_1 (by decide) (fun q => absurd q h1) (fun _ => ?_)
  refine lv_iload_n hx hb dJ3_checkIndex_8e157_4 rfl (lv_at hl 0 rfl) ?_
  refine lv_iload_n hx hb dJ3_checkIndex_8e157_5 rfl (lv_at hl 1 rfl) ?_
  refine lv_icmp_lt (tgt := 16) hx hb dJ3_checkIndex_8e157_6 (by decide) (fun _ => ?_) (fun q => absurd h2 q)
  refine lv_iload_n hx hb dJ3_checkIndex_8e157_16 rfl (lv_at hl 0 rfl) ?_
  exact W.iret hx hb hr (fun t ht _ => ⟨rfl, ht⟩) (fun _ q => by cases q) dJ3_checkIndex_8e157_17
set_option maxHeartbeats 4000000 in
theorem pm_check0 (l : Launch) (ad : Nat → Nat) (base : Nat) (i n : Int32) (h1 : ¬ i < 0) (h2 : i < n) : Met l yJ0_checkIndex_df160 (pW yJ0_checkIndex_df160 cJ0_checkIndex_df160 2 none) (pRm 2) (va_Pc [.int i, .int n] (mExt ad base)) (pQ none) 0 0 (fun _ => False) := by
  refine va_MetF (cc := cJ0_checkIndex_df160) (maxL := 2) (ret := none) (by decide +kernel) rfl ?_
  intro p e s m args below meth c s₁ B hml hv
  obtain ⟨rfl, hE⟩ := hv
  have hx := B.exec
  have hb := B.bytes
  have hr := B.returns
  have hlocks := B.notSynchronized
  have hts0 := atoms_spec (ws := pW yJ0_checkIndex_df160 cJ0_checkIndex_df160 2 none) B.pre
  have hts : ∀ w ∈ mGW, w.before _ s = true := fun w hw => hts0 w (List.mem_cons_of_mem _ hw)
  have hown : s.vm.findClass "java/lang/String" = some m.cls := findClass_of_methodNamed B.named
  have hS : va_S (mAd base) s.heap s.heap [] := va_S.rf
  have hl := lv_entry ([.int i, .int n]) (n := 2) (Nat.le_of_ble_eq_true rfl)
  rw [lg_entry_eq]
  generalize (lg_sl ([.int i, .int n]) ++ List.replicate (2 - (lg_sl ([.int i, .int n])).length) Slot.unset).toArray = ls at hl ⊢
  have hl : lv_has ls 2 [(0, .int i), (1, .int n)] := hl
  refine lv_iload_n hx hb dJ0_checkIndex_df160_0 rfl (lv_at hl 0 rfl) ?_
  refine lv_iload_n hx hb dJ0_checkIndex_df160_1 rfl (lv_at hl 1 rfl) ?_
  have go : ∀ r : Option Nat, W p l e (headSpec (pW yJ0_checkIndex_df160 cJ0_checkIndex_df160 2 none) (pRm 2)).room s m (([.int i, .int n] : List Value).toArray) below meth c s.heap [] 0 0 (MQ below (pQ none) (([.int i, .int n] : List Value).toArray) s 0 0 (fun _ => False)) (F0 m 5 ls [va_rf r, .int n, .int i]) := by
    intro r
    refine pu_call (va_runS (As := [.int i, .int n, va_rf r]) (rest := []) ⟨hx, hb, hml, hown, hts⟩ (pm_check3 l ad base i n r h1 h2) (va_cwS 3 hts (mGood (fun w hw => by
      unfold va_wsS at hw
      simp only [List.cons_append, List.nil_append, List.mem_cons] at hw
      rcases hw with rfl | rfl | rfl | hw
      · exact jw_l1
      · exact jw_s3
      · exact jw_i3
      · rcases List.mem_cons.mp hw with rfl | hw
        · exact jw_1
        · exact hw)) rfl rfl rfl (by decide +kernel) ⟨by decide, by decide⟩) (pPre_S hS hE) rfl rfl hl.1 rfl (lv_room (by decide)) dJ0_checkIndex_df160_5 ⟨Nat.zero_le _, Nat.zero_le _⟩) ?_
    refine lv_pop hx hb dJ0_checkIndex_df160_8 rfl ?_
    exact W.vret hx hb hr (fun t ht _ => ⟨rfl, ht⟩) (fun _ q => by cases q) dJ0_checkIndex_df160_9
  rcases hE.2.2.2.2.2.2.2.1 with hZ | ⟨t, hZ⟩
  · exact va_gets (ref := "jdk/internal/util/Preconditions") hx hb hZ hS hown (hts _ jw_f1) (fun _ h => h) dJ0_checkIndex_df160_2 (go none)
  · exact va_gets (ref := "jdk/internal/util/Preconditions") hx hb hZ hS hown (hts _ jw_f1) (fun _ h => h) dJ0_checkIndex_df160_2 (go (some t))
theorem xB_at : ∀ n : Nat, n < 132 → xBytes.getD n 0 &&& 255 = Int32.ofInt (xWords.getD n 0) ∧ w32 (xWords.getD n 0) = xWords.getD n 0 := by decide +kernel
set_option maxHeartbeats 4000000 in
theorem pm_char1 (l : Launch) (ad : Nat → Nat) (base : Nat) (i : Int32) (v : Nat) (h1 : ¬ i < 0) (h2 : i < 132) : Met l yJ1_charAt_3b067 (pW yJ1_charAt_3b067 cJ1_charAt_3b067 2 (some .char)) (pRm 3) (va_Pc [.ref v, .int i] (fun U => mExt ad base U ∧ va_T .byte v 132 (fun j => .int (xBytes.getD j 0)) (mAd base) U U.heap)) (pQ (some (.int (xBytes.getD i.toNatClampNeg 0 &&& 255)))) 0 0 (fun _ => False) := by
  refine va_MetF (cc := cJ1_charAt_3b067) (maxL := 2) (ret := some .char) (by decide +kernel) rfl ?_
  intro p e s m args below meth c s₁ B hml hv
  obtain ⟨rfl, hE, hT⟩ := hv
  have hx := B.exec
  have hb := B.bytes
  have hr := B.returns
  have hlocks := B.notSynchronized
  have hts0 := atoms_spec (ws := pW yJ1_charAt_3b067 cJ1_charAt_3b067 2 (some .char)) B.pre
  have hts : ∀ w ∈ mGW, w.before _ s = true := fun w hw => hts0 w (List.mem_cons_of_mem _ hw)
  have hown : s.vm.findClass "java/lang/StringLatin1" = some m.cls := findClass_of_methodNamed B.named
  have hS : va_S (mAd base) s.heap s.heap [] := va_S.rf
  have hin : vp_in i 132 := by
    rw [vp_in_iff]
    rw [Int32.lt_iff_toInt_lt] at h1 h2
    exact ⟨by have : (0 : Int32).toInt = 0 := rfl; omega, by have : (132 : Int32).toInt = 132 := rfl; omega⟩
  have hl := lv_entry ([.ref v, .int i]) (n := 2) (Nat.le_of_ble_eq_true rfl)
  rw [lg_entry_eq]
  generalize (lg_sl ([.ref v, .int i]) ++ List.replicate (2 - (lg_sl ([.ref v, .int i])).length) Slot.unset).toArray = ls at hl ⊢
  have hl : lv_has ls 2 [(0, .ref v), (1, .int i)] := hl
  refine lv_iload_n hx hb dJ1_charAt_3b067_0 rfl (lv_at hl 1 rfl) ?_
  refine lv_aload_n hx hb dJ1_charAt_3b067_1 rfl (lv_at hl 0 rfl) ?_
  refine va_tlen (v := 132) hx hb hT hS rfl dJ1_charAt_3b067_2 ?_
  refine pu_call (va_runS (As := [.int i, .int 132]) (rest := []) ⟨hx, hb, hml, hown, hts⟩ (pm_check0 l ad base i 132 h1 h2) (va_cwS 2 hts (mGood (fun w hw => by
      unfold va_wsS at hw
      simp only [List.cons_append, List.nil_append, List.mem_cons] at hw
      rcases hw with rfl | rfl | rfl | hw
      · exact jw_l2
      · exact jw_s2
      · exact jw_i0
      · rcases List.mem_cons.mp hw with rfl | hw
        · exact jw_2
        · exact hw)) rfl rfl rfl (by decide +kernel) ⟨by decide, by decide⟩) (pPre_S hS hE) rfl rfl hl.1 rfl (lv_room (by decide)) dJ1_charAt_3b067_3 ⟨Nat.zero_le _, Nat.zero_le _⟩) ?_
  refine lv_aload_n hx hb dJ1_charAt_3b067_6 rfl (lv_at hl 0 rfl) ?_
  refine lv_iload_n hx hb dJ1_charAt_3b067_7 rfl (lv_at hl 1 rfl) ?_
  refine va_tb hx hb hT hS hin rfl dJ1_charAt_3b067_8 ?_
  refine lv_sipush (v := 255) hx hb dJ1_charAt_3b067_9 (by decide) ?_
  refine lv_iand hx hb dJ1_charAt_3b067_12 ?_
  refine lv_i2c hx hb dJ1_charAt_3b067_13 (sc_c2 _) ?_
  exact W.zret hx hb hr (sc_nar _) (fun t ht _ => ⟨rfl, ht⟩) (fun _ q => by cases q) dJ1_charAt_3b067_14
set_option maxHeartbeats 4000000 in
theorem pm_latin (l : Launch) (ad : Nat → Nat) (base : Nat) : Met l yJ0_isLatin1_aae02 (pW yJ0_isLatin1_aae02 cJ0_isLatin1_aae02 1 (some .boolean)) (pRm 1) (va_Pc [.ref (ad 1002)] (mExt ad base)) (pQ (some (.int 1))) 0 0 (fun _ => False) := by
  refine va_MetF (cc := cJ0_isLatin1_aae02) (maxL := 1) (ret := some .boolean) (by decide +kernel) rfl ?_
  intro p e s m args below meth c s₁ B hml hv
  obtain ⟨rfl, hE⟩ := hv
  have hx := B.exec
  have hb := B.bytes
  have hr := B.returns
  have hlocks := B.notSynchronized
  have hts0 := atoms_spec (ws := pW yJ0_isLatin1_aae02 cJ0_isLatin1_aae02 1 (some .boolean)) B.pre
  have hts : ∀ w ∈ mGW, w.before _ s = true := fun w hw => hts0 w (List.mem_cons_of_mem _ hw)
  have hown : s.vm.findClass "java/lang/String" = some m.cls := findClass_of_methodNamed B.named
  have hS : va_S (mAd base) s.heap s.heap [] := va_S.rf
  obtain ⟨adV, h6⟩ := hE.2.2.2.2.2.1
  have hl := lv_entry ([.ref (ad 1002)]) (n := 1) (Nat.le_of_ble_eq_true rfl)
  rw [lg_entry_eq]
  generalize (lg_sl ([.ref (ad 1002)]) ++ List.replicate (1 - (lg_sl ([.ref (ad 1002)])).length) Slot.unset).toArray = ls at hl ⊢
  have hl : lv_has ls 1 [(0, .ref (ad 1002))] := hl
  refine va_gets (ref := "java/lang/String") hx hb hE.2.2.2.2.2.2.1 hS hown (hts _ jw_f2) (fun _ h => h) dJ0_isLatin1_aae02_0 ?_
  refine lv_if_eq (tgt := 17) hx hb dJ0_isLatin1_aae02_3 (by decide) (fun q => absurd q (by decide)) (fun _ => ?_)
  refine lv_aload_n hx hb dJ0_isLatin1_aae02_6 rfl (lv_at hl 0 rfl) ?_
  refine vk_getf (ref := "java/lang/String") hx hb (h6.1 0 (by decide)).2.1 hS hown (hts _ jw_f3) (fun _ h => h) dJ0_isLatin1_aae02_7 ?_
  refine lv_if_ne (tgt := 17) hx hb dJ0_isLatin1_aae02_10 (by decide) (fun q => absurd rfl q) (fun _ => ?_)
  refine lv_iconst (v := 1) hx hb dJ0_isLatin1_aae02_13 (by decide) ?_
  refine lv_goto (tgt := 18) hx hb dJ0_isLatin1_aae02_14 (by decide) ?_
  exact W.zret hx hb hr rfl (fun t ht _ => ⟨rfl, ht⟩) (fun _ q => by cases q) dJ0_isLatin1_aae02_18
set_option maxHeartbeats 4000000 in
theorem pm_char0 (l : Launch) (ad : Nat → Nat) (base : Nat) (i : Int32) (h1 : ¬ i < 0) (h2 : i < 132) : Met l yJ0_charAt_5068e (pW yJ0_charAt_5068e cJ0_charAt_5068e 2 (some .char)) (pRm 4) (va_Pc [.ref (ad 1002), .int i] (mExt ad base)) (pQ (some (.int (xBytes.getD i.toNatClampNeg 0 &&& 255)))) 0 0 (fun _ => False) := by
  refine va_MetF (cc := cJ0_charAt_5068e) (maxL := 2) (ret := some .char) (by decide +kernel) rfl ?_
  intro p e s m args below meth c s₁ B hml hv
  obtain ⟨rfl, hE⟩ := hv
  have hx := B.exec
  have hb := B.bytes
  have hr := B.returns
  have hlocks := B.notSynchronized
  have hts0 := atoms_spec (ws := pW yJ0_charAt_5068e cJ0_charAt_5068e 2 (some .char)) B.pre
  have hts : ∀ w ∈ mGW, w.before _ s = true := fun w hw => hts0 w (List.mem_cons_of_mem _ hw)
  have hown : s.vm.findClass "java/lang/String" = some m.cls := findClass_of_methodNamed B.named
  have hS : va_S (mAd base) s.heap s.heap [] := va_S.rf
  obtain ⟨adV, h6⟩ := hE.2.2.2.2.2.1
  have hl := lv_entry ([.ref (ad 1002), .int i]) (n := 2) (Nat.le_of_ble_eq_true rfl)
  rw [lg_entry_eq]
  generalize (lg_sl ([.ref (ad 1002), .int i]) ++ List.replicate (2 - (lg_sl ([.ref (ad 1002), .int i])).length) Slot.unset).toArray = ls at hl ⊢
  have hl : lv_has ls 2 [(0, .ref (ad 1002)), (1, .int i)] := hl
  refine lv_aload_n hx hb dJ0_charAt_5068e_0 rfl (lv_at hl 0 rfl) ?_
  refine pu_call (va_runV (C := "java/lang/String") (b := ad 1002) (As := []) (rest := []) ⟨hx, hb, hml, hown, hts⟩ (pm_latin l ad base) (cwV 0 hts (mGood (fun w hw => by
      unfold wsV at hw
      simp only [List.cons_append, List.nil_append, List.mem_cons] at hw
      rcases hw with rfl | rfl | rfl | rfl | hw
      · exact jw_l4
      · exact jw_n4.1
      · exact jw_n4.2
      · exact jw_i0
      · rcases List.mem_cons.mp hw with rfl | hw
        · exact jw_4
        · exact hw)) rfl rfl rfl (by decide +kernel) ⟨by decide, by decide⟩) ⟨pPre_blind, vk_recv h6 (i := 0) (by decide) hS, (pPre_S hS hE).2⟩ rfl rfl hl.1 rfl (lv_room (by decide)) dJ0_charAt_5068e_1 ⟨Nat.zero_le _, Nat.zero_le _⟩) ?_
  refine lv_if_eq (tgt := 16) hx hb dJ0_charAt_5068e_4 rfl (fun q => absurd q (by decide)) (fun _ => ?_)
  refine lv_aload_n hx hb dJ0_charAt_5068e_7 rfl (lv_at hl 0 rfl) ?_
  refine vk_getf (ref := "java/lang/String") hx hb (h6.1 0 (by decide)).2.2.1 hS hown (hts _ jw_f4) (fun _ h => h) dJ0_charAt_5068e_8 ?_
  refine lv_iload_n hx hb dJ0_charAt_5068e_11 rfl (lv_at hl 1 rfl) ?_
  have hbl : FrameBlind (va_Pc [.ref (adV 0), .int i] (fun U => mExt ad base U ∧ va_T .byte (adV 0) 132 (fun j => .int (xBytes.getD j 0)) (mAd base) U U.heap)) := by
    intro a U g mk q
    exact ⟨q.1, mExt_moved (u := U) (U := U.calling g mk a) (Vm.Alike.refl U.vm) rfl (vk_R.same (u := U) (U := U.calling g mk a) rfl q.2.1.2.2.2.2.1) q.2.1, va_T.moved (u := U) (U := U.calling g mk a) (Vm.Alike.refl U.vm) q.2.2⟩
  have hT : va_T .byte (adV 0) 132 (fun j => .int (xBytes.getD j 0)) (mAd base) s s.heap := by
    have hT0 := (h6.1 0 (by decide)).2.2.2
    have e1 : ([xBytes] : List (List Int32)).getD 0 [] = xBytes := List.getD_cons_zero
    have e2 : ([132] : List Nat).getD 0 0 = 132 := List.getD_cons_zero
    rw [e1, e2] at hT0
    exact hT0
  refine pu_call (va_runS (As := [.ref (adV 0), .int i]) (rest := []) ⟨hx, hb, hml, hown, hts⟩ (pm_char1 l ad base i (adV 0) h1 h2) (va_cwS 2 hts (mGood (fun w hw => by
      unfold va_wsS at hw
      simp only [List.cons_append, List.nil_append, List.mem_cons] at hw
      rcases hw with rfl | rfl | rfl | hw
      · exact jw_l3
      · exact jw_s1
      · exact jw_i1
      · rcases List.mem_cons.mp hw with rfl | hw
        · exact jw_3
        · exact hw)) rfl rfl rfl (by decide +kernel) ⟨by decide, by decide⟩) ⟨hbl, fun U hU hW => ⟨rfl, mExt_heap hW hU hS hE, by rw [hU]; exact va_T.moved hW.alike hT⟩⟩ rfl rfl hl.1 rfl (lv_room (by decide)) dJ0_charAt_5068e_12 ⟨Nat.zero_le _, Nat.zero_le _⟩) ?_
  exact W.zret hx hb hr (sc_nar _) (fun t ht _ => ⟨rfl, ht⟩) (fun _ q => by cases q) dJ0_charAt_5068e_15
theorem mCharAt_ok {l : Launch} {D : va_G} {cA : Nat → ClassId} {ad : Nat → Nat} {base : Nat} : mCharAt l D cA ad base := by
  intro p e R s m args below meth c Q n0 s0 ml kind bs cx hRf hRl pc ls st M i hi hst hc1 hc2 hd k H locs lsA hR hs hl hL
  obtain ⟨hw, hs⟩ := mOkS_c.mp hs
  have hs := (mOkS_c.mp hs).2
  have hS := hR.2.2.2.2.2.2
  have hE := cx.2.2.2.2.2.2.2.2
  obtain ⟨adV, h6⟩ := hE.2.2.2.2.2.1
  have h1 : ¬ Int32.ofInt i < 0 := fun q => by rw [← o32_0, o32_lt hw w32_0] at q; omega
  have h2 : Int32.ofInt i < 132 := by rw [show (132 : Int32) = Int32.ofInt 132 from rfl, o32_lt hw (by decide)]; exact hi.2
  have hcat := mCats (ad := ad) st
  refine pu_call (va_runV (C := "java/lang/String") (b := ad 1002) (As := [.int (Int32.ofInt i)]) (rest := st.map (mCv ad)) ⟨cx.1, cx.2.1, cx.2.2.1, cx.2.2.2.1, cx.2.2.2.2.1⟩ (pm_char0 l ad base (Int32.ofInt i) h1 h2) (cwV 1 cx.2.2.2.2.1 (mGood (fun w hw => by
      unfold wsV at hw
      simp only [List.cons_append, List.nil_append, List.mem_cons] at hw
      rcases hw with rfl | rfl | rfl | rfl | hw
      · exact jw_l5
      · exact jw_n5.1
      · exact jw_n5.2
      · exact jw_i0
      · rcases List.mem_cons.mp hw with rfl | hw
        · exact jw_5
        · exact hw)) rfl rfl rfl (by decide +kernel) ⟨by show 4 + 1 ≤ _; omega, by show 8 + (2 + 11) + 160 ≤ _; omega⟩) ⟨pPre_blind, vk_recv h6 (i := 0) (by decide) hS, (pPre_S hS hE).2⟩ rfl rfl (by rw [← cx.2.2.1]; exact hL.2.1.trans cx.2.2.1.symm) rfl (lv_room (by omega)) hd ⟨hc1, hc2⟩) ?_
  have e1 := xB_at i.toNat (by omega)
  have k' := k H locs lsA hR (mOkS_c.mpr ⟨e1.2, hs⟩) hl hL
  rw [o32_cl hw, e1.1]
  exact k'
