section MSo
variable {p : Program} {l : Launch} {e : Env} {R : Room} {s : State} {m : MethodId} {args : Array Value} {below : List Frame} {meth : Method} {c : Code} {Q : State → Prop} {D : va_G} {cA : Nat → ClassId} {ad : Nat → Nat} {base n0 s0 ml o kind : Nat} {bs : ByteArray} {ret : Option FieldType}
theorem blt_le {n : Nat} (h : Nat.blt 4 n = false) : n ≤ 4 := by
  cases hq : Nat.blt 4 n with
  | true => rw [hq] at h; cases h
  | false =>
    apply Nat.le_of_not_lt
    intro q
    have : Nat.blt 4 n = true := Nat.ble_eq_true_of_le q
    rw [this] at hq; cases hq
theorem kind_ne {v : mV} (h : Nat.beq (mIs v) 1 = false) : mIs v ≠ 1 := fun q => by rw [q] at h; cases h
theorem mtab_len : mtab.length = 260 := by decide +kernel
theorem init_all : mtab.all (fun q => match q with
  | some e => !(Nat.beq e.2.2.2.2.2.2.1 2) || decide (e.2.2.2.2.1 = none)
  | none => true) = true := by decide +kernel
theorem init_none {y : Nat} {em : mMe} (he : mtab[y]? = some (some em)) {o k n : Nat} {z : Int} (h : (mHas4 mmT o k y = true ∨ mHas4 mmN o k y = true) ∧ ∃ e, mtab[y]? = some (some e) ∧ e.2.2.2.2.2.2.1 = 2 ∧ e.2.2.2.2.2.2.2.1 = n ∧ mKindOf e = z) : em.2.2.2.2.1 = none := by
  obtain ⟨-, e, h1, h2, -, -⟩ := h
  cases he.symm.trans h1
  have h3 := List.all_eq_true.mp init_all (some em) (List.mem_of_getElem? he)
  rw [Bool.or_eq_true, decide_eq_true_eq] at h3
  rcases h3 with h3 | h3
  · rw [h2] at h3; cases h3
  · exact h3
theorem call_go {d : Nat} {Φ : mOrc} (hsnd : mSnd l D cA ad base d Φ) {o i y n kd : Nat} {z : Int} (hck : mCkCall o i y n z kd = true) {as : List mV} {M : mMem} {g : List mV → mMem → mRes} {res : Int × mMem} (h : mCall z M (Φ y as M) g = some res) : ∃ x, Φ y as M = some x ∧ y < 9000 ∧ g (mRvs z x.1) x.2 = some res := by
  obtain ⟨-, em, hem, -, -, hkz⟩ := mCkCall_at hck
  have hy : y < 9000 := by
    have h1 := (List.getElem?_eq_some_iff.mp hem).1
    have h2 := mtab_len
    omega
  obtain ⟨x, hx, h⟩ := inv_Call h
  obtain ⟨em', hem', -, -, -, hqu, -⟩ := hsnd.2 y as M x hy hx
  cases hem.symm.trans hem'
  refine ⟨x, hx, hy, ?_⟩
  rcases h with ⟨hz, h⟩ | ⟨-, h⟩
  · have hq : em.2.2.2.2.2.2.2.2.1 = true := by
      cases hb : em.2.2.2.2.2.2.2.2.1 with
      | true => rfl
      | false =>
        unfold mKindOf at hkz
        rw [hb] at hkz
        simp only [Bool.false_eq_true, if_false] at hkz
        split at hkz <;> omega
    obtain ⟨h1, h2⟩ := hqu hq
    have e1 : (M.1, x.2.2.1, M.2.2) = x.2 := by rw [← h1, ← h2]
    rw [e1] at h
    exact h
  · exact h
set_option maxHeartbeats 8000000 in
set_option maxRecDepth 100000 in
theorem mStep_sound {d : Nat} {Φ : mOrc} {res : Int × mMem} (E : mEnv p l e R s m args below meth c Q D cA ad base n0 s0 ml o kind bs ret d Φ res) {ent : mEnt} {pc : Nat} {ls : mLs} {st : List mV} {M : mMem} {go : mGo} (hck : mCkE o kind ret bs pc ent = true) (h : mStep Φ ent pc ls st M go = some res)
    (hgo : ∀ pc' ls' st' M', go pc' ls' st' M' = some res → mG p l e R s m args below meth c Q D cA ad base n0 s0 ml pc' ls' st' M') (hgr : ∀ pc' ls' st' M', go pc' ls' st' M' = some res → M'.1.length ≤ res.2.1.length ∧ mSl M' ≤ mSl res.2) : mG p l e R s m args below meth c Q D cA ad base n0 s0 ml pc ls st M := by
  obtain ⟨cx, had, hn0, hsnd, hRf, hRl, hr1000, hRc, hRs, hsl, hend, hscr, hscl, hchr⟩ := E
  obtain ⟨cut, ins, len, r1, r2, z, sw⟩ := ent
  unfold mCkE at hck
  rw [Bool.and_eq_true, decide_eq_true_eq] at hck
  obtain ⟨hd, hck⟩ := hck
  have L : ∀ {k : Nat}, Nat.beq len k = true → len = k := fun h => Nat.eq_of_beq_eq_true h
  cases ins
  case iconst i =>
    simp only [Bool.and_eq_true, decide_eq_true_eq] at hck
    obtain ⟨hl, hw⟩ := hck
    cases L hl
    exact ms_iconst cx hw hd (hgo _ _ _ _ h)
  case bipush i =>
    simp only [Bool.and_eq_true, decide_eq_true_eq] at hck
    obtain ⟨⟨hl, h2⟩, hw⟩ := hck
    cases L hl
    exact ms_bipush cx h2 hw hd (hgo _ _ _ _ h)
  case sipush i =>
    simp only [Bool.and_eq_true, decide_eq_true_eq] at hck
    obtain ⟨⟨hl, h2⟩, hw⟩ := hck
    cases L hl
    exact ms_sipush cx h2 hw hd (hgo _ _ _ _ h)
  case lconst i =>
    cases L hck
    exact ms_lconst cx hd (hgo _ _ _ _ h)
  case ldc i =>
    rw [Bool.and_eq_true] at hck
    obtain ⟨hl, hck⟩ := hck
    cases L hl
    rcases inv_cond h with ⟨q, h2⟩ | ⟨q, h⟩
    · rw [q] at hck
      simp only [cond_true, Bool.and_eq_true] at hck
      have e1 := Nat.eq_of_beq_eq_true hck.1
      have e2 := Nat.eq_of_beq_eq_true hck.2
      subst e1
      subst e2
      exact ms_ldcS cx hd (hgo _ _ _ _ h2)
    · rw [q] at hck
      simp only [cond_false, Bool.and_eq_true, decide_eq_true_eq] at hck
      exact ms_ldc cx hck.1 hck.2 hd (hgo _ _ _ _ h)
  case ldc_w i =>
    simp only [Bool.and_eq_true, decide_eq_true_eq] at hck
    obtain ⟨⟨hl, h2⟩, hw⟩ := hck
    cases L hl
    exact ms_ldcw cx h2 hw hd (hgo _ _ _ _ h)
  case ldc2_w i =>
    simp only [Bool.and_eq_true, decide_eq_true_eq] at hck
    obtain ⟨⟨hl, h2⟩, hw⟩ := hck
    cases L hl
    exact ms_ldc2 cx h2 hw hd (hgo _ _ _ _ h)
  case iload_n i =>
    cases L hck
    have h : mLoad 0 ls st i (fun st => go (pc + 1) ls st M) = some res := h
    obtain ⟨v, h1, h2, h3⟩ := inv_Load h
    exact ms_loadN cx 0 h1 h2 ⟨fun _ => hd, (fun q => by cases q), (fun q => by cases q)⟩ (hgo _ _ _ _ h3)
  case lload_n i =>
    cases L hck
    have h : mLoad 1 ls st i (fun st => go (pc + 1) ls st M) = some res := h
    obtain ⟨v, h1, h2, h3⟩ := inv_Load h
    exact ms_loadN cx 1 h1 h2 ⟨(fun q => by cases q), fun _ => hd, (fun q => by cases q)⟩ (hgo _ _ _ _ h3)
  case aload_n i =>
    cases L hck
    have h : mLoad 2 ls st i (fun st => go (pc + 1) ls st M) = some res := h
    obtain ⟨v, h1, h2, h3⟩ := inv_Load h
    exact ms_loadN cx 2 h1 h2 ⟨(fun q => by cases q), (fun q => by cases q), fun _ => hd⟩ (hgo _ _ _ _ h3)
  case iload i =>
    cases L hck
    have h : mLoad 0 ls st i (fun st => go (pc + 2) ls st M) = some res := h
    obtain ⟨v, h1, h2, h3⟩ := inv_Load h
    exact ms_load cx 0 h1 h2 ⟨fun _ => hd, (fun q => by cases q), (fun q => by cases q)⟩ (hgo _ _ _ _ h3)
  case lload i =>
    cases L hck
    have h : mLoad 1 ls st i (fun st => go (pc + 2) ls st M) = some res := h
    obtain ⟨v, h1, h2, h3⟩ := inv_Load h
    exact ms_load cx 1 h1 h2 ⟨(fun q => by cases q), fun _ => hd, (fun q => by cases q)⟩ (hgo _ _ _ _ h3)
  case aload i =>
    cases L hck
    have h : mLoad 2 ls st i (fun st => go (pc + 2) ls st M) = some res := h
    obtain ⟨v, h1, h2, h3⟩ := inv_Load h
    exact ms_load cx 2 h1 h2 ⟨(fun q => by cases q), (fun q => by cases q), fun _ => hd⟩ (hgo _ _ _ _ h3)
  case istore_n i =>
    cases L hck
    have h : mStore 0 ls st i (fun ls st => go (pc + 1) ls st M) = some res := h
    obtain ⟨v, r, rfl, h2, h3, h4, h5⟩ := inv_Store h
    exact ms_storeN cx 0 h2 h3 h4 ⟨fun _ => hd, (fun q => by cases q)⟩ (by decide) (hgo _ _ _ _ h5)
  case astore_n i =>
    cases L hck
    have h : mStore 2 ls st i (fun ls st => go (pc + 1) ls st M) = some res := h
    obtain ⟨v, r, rfl, h2, h3, h4, h5⟩ := inv_Store h
    exact ms_storeN cx 2 h2 h3 h4 ⟨(fun q => by cases q), fun _ => hd⟩ (by decide) (hgo _ _ _ _ h5)
  case istore i =>
    cases L hck
    have h : mStore 0 ls st i (fun ls st => go (pc + 2) ls st M) = some res := h
    obtain ⟨v, r, rfl, h2, h3, h4, h5⟩ := inv_Store h
    exact ms_store cx 0 h2 h3 h4 ⟨fun _ => hd, (fun q => by cases q)⟩ (by decide) (hgo _ _ _ _ h5)
  case astore i =>
    cases L hck
    have h : mStore 2 ls st i (fun ls st => go (pc + 2) ls st M) = some res := h
    obtain ⟨v, r, rfl, h2, h3, h4, h5⟩ := inv_Store h
    exact ms_store cx 2 h2 h3 h4 ⟨(fun q => by cases q), fun _ => hd⟩ (by decide) (hgo _ _ _ _ h5)
  case lstore_n i =>
    cases L hck
    have h : mStoreJ ls st i (fun ls st => go (pc + 1) ls st M) = some res := h
    obtain ⟨y, r, rfl, h3, h4, h5⟩ := inv_StoreJ h
    exact ms_storeJN cx h3 h4 hd (hgo _ _ _ _ h5)
  case lstore i =>
    cases L hck
    have h : mStoreJ ls st i (fun ls st => go (pc + 2) ls st M) = some res := h
    obtain ⟨y, r, rfl, h3, h4, h5⟩ := inv_StoreJ h
    exact ms_storeJ cx h3 h4 hd (hgo _ _ _ _ h5)
  case iinc i k =>
    cases L hck
    obtain ⟨v, h1, h2⟩ := inv_Ld h
    match v, h1, h2 with
    | Sum.inl x, h1, h2 => exact ms_iinc cx h1 hd (hgo _ _ _ _ h2)
  case iadd => cases L hck; obtain ⟨a, b, r, rfl, h⟩ := inv_I2 h; exact ms_iadd cx hd (hgo _ _ _ _ h)
  case isub => cases L hck; obtain ⟨a, b, r, rfl, h⟩ := inv_I2 h; exact ms_isub cx hd (hgo _ _ _ _ h)
  case imul => cases L hck; obtain ⟨a, b, r, rfl, h⟩ := inv_I2 h; exact ms_imul cx hd (hgo _ _ _ _ h)
  case iand => cases L hck; obtain ⟨a, b, r, rfl, h⟩ := inv_I2 h; exact ms_iand cx hd (hgo _ _ _ _ h)
  case ior => cases L hck; obtain ⟨a, b, r, rfl, h⟩ := inv_I2 h; exact ms_ior cx hd (hgo _ _ _ _ h)
  case ixor => cases L hck; obtain ⟨a, b, r, rfl, h⟩ := inv_I2 h; exact ms_ixor cx hd (hgo _ _ _ _ h)
  case ishl => cases L hck; obtain ⟨a, b, r, rfl, h⟩ := inv_I2 h; exact ms_ishl cx hd (hgo _ _ _ _ h)
  case ishr => cases L hck; obtain ⟨a, b, r, rfl, h⟩ := inv_I2 h; exact ms_ishr cx hd (hgo _ _ _ _ h)
  case iushr => cases L hck; obtain ⟨a, b, r, rfl, h⟩ := inv_I2 h; exact ms_iushr cx hd (hgo _ _ _ _ h)
  case idiv => cases L hck; obtain ⟨a, b, r, rfl, h⟩ := inv_I2 h; obtain ⟨q, h⟩ := inv_iteF h; exact ms_idiv cx q hd (hgo _ _ _ _ h)
  case irem => cases L hck; obtain ⟨a, b, r, rfl, h⟩ := inv_I2 h; obtain ⟨q, h⟩ := inv_iteF h; exact ms_irem cx q hd (hgo _ _ _ _ h)
  case ladd => cases L hck; obtain ⟨a, b, r, rfl, h⟩ := inv_J2 h; exact ms_ladd cx hd (hgo _ _ _ _ h)
  case lsub => cases L hck; obtain ⟨a, b, r, rfl, h⟩ := inv_J2 h; exact ms_lsub cx hd (hgo _ _ _ _ h)
  case lmul => cases L hck; obtain ⟨a, b, r, rfl, h⟩ := inv_J2 h; exact ms_lmul cx hd (hgo _ _ _ _ h)
  case land => cases L hck; obtain ⟨a, b, r, rfl, h⟩ := inv_J2 h; exact ms_land cx hd (hgo _ _ _ _ h)
  case ldiv => cases L hck; obtain ⟨a, b, r, rfl, h⟩ := inv_J2 h; obtain ⟨q, h⟩ := inv_iteF h; exact ms_ldiv cx q hd (hgo _ _ _ _ h)
  case lrem => cases L hck; obtain ⟨a, b, r, rfl, h⟩ := inv_J2 h; obtain ⟨q, h⟩ := inv_iteF h; exact ms_lrem cx q hd (hgo _ _ _ _ h)
  case lcmp => cases L hck; obtain ⟨a, b, r, rfl, h⟩ := inv_J2 h; exact ms_lcmp cx hd (hgo _ _ _ _ h)
  case i2l => cases L hck; obtain ⟨a, r, rfl, h⟩ := inv_I1 h; exact ms_i2l cx hd (hgo _ _ _ _ h)
  case l2i => cases L hck; obtain ⟨a, r, rfl, h⟩ := inv_J1 h; exact ms_l2i cx hd (hgo _ _ _ _ h)
  case dup =>
    cases L hck
    match st, h with
    | v :: r, h => obtain ⟨q, h⟩ := inv_condF h; exact ms_dup cx (kind_ne q) hd (hgo _ _ _ _ h)
  case pop =>
    cases L hck
    match st, h with
    | v :: r, h => obtain ⟨q, h⟩ := inv_condF h; exact ms_pop cx (kind_ne q) hd (hgo _ _ _ _ h)
  case dup2 =>
    cases L hck
    match st, h with
    | v :: w :: r, h =>
      obtain ⟨q, h⟩ := inv_condF h
      rw [Bool.or_eq_false_iff] at q
      exact ms_dup2 cx (kind_ne q.1) (kind_ne q.2) hd (hgo _ _ _ _ h)
  case goto off =>
    simp only [Bool.and_eq_true, decide_eq_true_eq] at hck
    obtain ⟨ht, hl⟩ := hck
    cases L hl
    exact ms_goto cx ht hd (hgo _ _ _ _ h)
  case ifCond cc off =>
    simp only [Bool.and_eq_true, decide_eq_true_eq] at hck
    obtain ⟨hl, ht⟩ := hck
    cases L hl
    obtain ⟨a, r, rfl, h⟩ := inv_I1 h
    cases cc
    case eq =>
      refine ms_if_eq cx ht hd (fun q => hgo _ _ _ _ ?_) (fun q => hgo _ _ _ _ ?_)
      · rw [← h]; exact (if_pos q).symm
      · rw [← h]; exact (if_neg q).symm
    case ne =>
      refine ms_if_ne cx ht hd (fun q => hgo _ _ _ _ ?_) (fun q => hgo _ _ _ _ ?_)
      · rw [← h]; exact (if_neg q).symm
      · rw [← h]; exact (if_pos q).symm
    case lt =>
      refine ms_if_lt cx ht hd (fun q => hgo _ _ _ _ ?_) (fun q => hgo _ _ _ _ ?_)
      · rw [← h]; exact (if_pos q).symm
      · rw [← h]; exact (if_neg q).symm
    case ge =>
      refine ms_if_ge cx ht hd (fun q => hgo _ _ _ _ ?_) (fun q => hgo _ _ _ _ ?_)
      · rw [← h]; exact (if_neg q).symm
      · rw [← h]; exact (if_pos q).symm
    case gt =>
      refine ms_if_gt cx ht hd (fun q => hgo _ _ _ _ ?_) (fun q => hgo _ _ _ _ ?_)
      · rw [← h]; exact (if_pos q).symm
      · rw [← h]; exact (if_neg q).symm
    case le =>
      refine ms_if_le cx ht hd (fun q => hgo _ _ _ _ ?_) (fun q => hgo _ _ _ _ ?_)
      · rw [← h]; exact (if_neg q).symm
      · rw [← h]; exact (if_pos q).symm
  case if_icmp cc off =>
    simp only [Bool.and_eq_true, decide_eq_true_eq] at hck
    obtain ⟨hl, ht⟩ := hck
    cases L hl
    obtain ⟨a, b, r, rfl, h⟩ := inv_I2 h
    cases cc
    case eq =>
      refine ms_icmp_eq cx ht hd (fun q => hgo _ _ _ _ ?_) (fun q => hgo _ _ _ _ ?_)
      · rw [← h]; exact (if_pos q).symm
      · rw [← h]; exact (if_neg q).symm
    case ne =>
      refine ms_icmp_ne cx ht hd (fun q => hgo _ _ _ _ ?_) (fun q => hgo _ _ _ _ ?_)
      · rw [← h]; exact (if_neg q).symm
      · rw [← h]; exact (if_pos q).symm
    case lt =>
      refine ms_icmp_lt cx ht hd (fun q => hgo _ _ _ _ ?_) (fun q => hgo _ _ _ _ ?_)
      · rw [← h]; exact (if_pos q).symm
      · rw [← h]; exact (if_neg q).symm
    case ge =>
      refine ms_icmp_ge cx ht hd (fun q => hgo _ _ _ _ ?_) (fun q => hgo _ _ _ _ ?_)
      · rw [← h]; exact (if_neg q).symm
      · rw [← h]; exact (if_pos q).symm
    case gt =>
      refine ms_icmp_gt cx ht hd (fun q => hgo _ _ _ _ ?_) (fun q => hgo _ _ _ _ ?_)
      · rw [← h]; exact (if_pos q).symm
      · rw [← h]; exact (if_neg q).symm
    case le =>
      refine ms_icmp_le cx ht hd (fun q => hgo _ _ _ _ ?_) (fun q => hgo _ _ _ _ ?_)
      · rw [← h]; exact (if_neg q).symm
      · rw [← h]; exact (if_pos q).symm
  case tableswitch d lo hi offs =>
    obtain ⟨a, r, rfl, h⟩ := inv_I1 h
    refine ms_table cx hck hd ?_
    rcases mSw_inv h with ⟨i, t, h1, h2⟩ | ⟨h1, h2⟩
    · exact Or.inl ⟨i, t, h1, hgo _ _ _ _ h2⟩
    · exact Or.inr ⟨h1, hgo _ _ _ _ h2⟩
  case getstatic i =>
    rw [Bool.and_eq_true] at hck
    obtain ⟨hl, hck⟩ := hck
    cases L hl
    simp only [Bool.or_eq_true, Bool.and_eq_true] at hck
    rcases hck with ⟨⟨q1, q2⟩, q3⟩ | ⟨q1, ⟨q2, q3⟩ | ⟨q2, q3⟩⟩
    · cases Nat.eq_of_beq_eq_true q1; cases Nat.eq_of_beq_eq_true q2; cases Nat.eq_of_beq_eq_true q3
      exact ms_getNamed cx hd (hgo _ _ _ _ h)
    · cases Nat.eq_of_beq_eq_true q1; cases Nat.eq_of_beq_eq_true q2; cases Nat.eq_of_beq_eq_true q3
      exact ms_getMost4 cx hd (hgo _ _ _ _ h)
    · cases Nat.eq_of_beq_eq_true q1; cases Nat.eq_of_beq_eq_true q2; cases Nat.eq_of_beq_eq_true q3
      exact ms_getMost7 cx hd (hgo _ _ _ _ h)
  case getfield i =>
    rw [Bool.and_eq_true] at hck
    obtain ⟨hl, hck⟩ := hck
    cases L hl
    obtain ⟨a, r, rfl, h⟩ := inv_R1 h
    obtain ⟨ha, h⟩ := inv_condN h
    exact ms_getfield cx hck ha hd (hgo _ _ _ _ h)
  case putfield i =>
    simp only [Bool.and_eq_true] at hck
    obtain ⟨⟨hl, hcf⟩, hfin⟩ := hck
    cases L hl
    obtain ⟨v, a, r, rfl, h⟩ := inv_RR h
    obtain ⟨ha, h⟩ := inv_condN h
    obtain ⟨-, hci, hr1, hr2⟩ := mCkFld_at hcf
    have hty := (own_at hci hr1).2.2
    rw [← hr2] at hty
    have hsh := (mObj_lt hci ha).2
    match v, h with
    | Sum.inl x, h =>
      match r2, h, hty, hr2 with
      | 0, h, hty, hr2 =>
        have hty := of_decide_eq_true hty
        refine ms_putfield (N := (M.1, m2 M.2.1 a r1 x, M.2.2)) cx hcf hfin ha rfl (fun b hb => ⟨m2_ne hb, rfl⟩) (fun j hj => ⟨by show m2 M.2.1 a r1 x a j = _; rw [m2_at, if_neg (by omega)], rfl⟩) ?_ (fun h1 h2 => mOkM_set h1 (w64_w32 h2) (fun _ => h2)) ?_ hd (hgo _ _ _ _ h)
        · rw [← hr2]; show Value.int (Int32.ofInt (m2 M.2.1 a r1 x a r1)) = _; rw [m2_at, if_pos rfl]; rfl
        · rw [hty]; exact ⟨rfl, rfl⟩
      | 3, h, hty, hr2 =>
        have hty := of_decide_eq_true hty
        obtain ⟨hx, h⟩ := inv_iteN h
        refine ms_putfield (N := (M.1, m2 M.2.1 a r1 x, M.2.2)) cx hcf hfin ha rfl (fun b hb => ⟨m2_ne hb, rfl⟩) (fun j hj => ⟨by show m2 M.2.1 a r1 x a j = _; rw [m2_at, if_neg (by omega)], rfl⟩) ?_ (fun h1 h2 => mOkM_set h1 (w64_w32 h2) (fun _ => h2)) ?_ hd (hgo _ _ _ _ h)
        · rw [← hr2]; show Value.int (Int32.ofInt (m2 M.2.1 a r1 x a r1)) = _; rw [m2_at, if_pos rfl]; rfl
        · rw [hty]; rcases hx with rfl | rfl <;> exact ⟨rfl, rfl⟩
    | Sum.inr (Sum.inl x), h =>
      obtain ⟨q, h⟩ := inv_condN h
      cases Nat.eq_of_beq_eq_true q
      have hty := of_decide_eq_true hty
      refine ms_putfield (N := (M.1, m2 M.2.1 a r1 x, M.2.2)) cx hcf hfin ha rfl (fun b hb => ⟨m2_ne hb, rfl⟩) (fun j hj => ⟨by show m2 M.2.1 a r1 x a j = _; rw [m2_at, if_neg (by omega)], rfl⟩) ?_ (fun h1 h2 => mOkM_set h1 h2 (fun q => ?_)) ?_ hd (hgo _ _ _ _ h)
      · rw [← hr2]; show Value.long (Int64.ofInt (m2 M.2.1 a r1 x a r1)) = _; rw [m2_at, if_pos rfl]; rfl
      · rw [hsh] at q
        unfold mIsJ at q
        rw [show ((r1 : Int)).toNat = r1 from rfl, Nat.add_sub_cancel_left, ← hr2, Bool.or_eq_false_iff] at q
        have q2 := q.2
        rw [show Nat.ble 10 (10 + z.toNat) = true from Nat.ble_eq_true_of_le (by omega)] at q2
        cases q2
      · rw [hty]; exact ⟨rfl, rfl⟩
    | Sum.inr (Sum.inr x), h =>
      obtain ⟨q, h⟩ := inv_condN h
      cases Nat.eq_of_beq_eq_true q
      have hty : (decide (2 = 2) && (mTy z.toNat r1).isReference) = true := hty
      rw [Bool.and_eq_true] at hty
      refine ms_putfield (N := (M.1, M.2.1, m2 M.2.2 a r1 x)) cx hcf hfin ha rfl (fun b hb => ⟨rfl, m2_ne hb⟩) (fun j hj => ⟨rfl, by show m2 M.2.2 a r1 x a j = _; rw [m2_at, if_neg (by omega)]⟩) ?_ (fun h1 _ => h1) ?_ hd (hgo _ _ _ _ h)
      · rw [← hr2]; show va_rf ((m2 M.2.2 a r1 x a r1).map ad) = _; rw [m2_at, if_pos rfl]; rfl
      · exact ref_nar hty.2 (x.map ad)
  case arraylength =>
    cases L hck
    obtain ⟨a, r, rfl, h⟩ := inv_R1 h
    match r1, h with
    | 0, h =>
      obtain ⟨q, h⟩ := inv_condN h
      have hg := hgr _ _ _ _ h
      exact ms_alen cx (Nat.le_of_ble_eq_true q) hd (mShOk_len (by omega)) (hgo _ _ _ _ h)
    | 1, h => obtain ⟨q, h⟩ := inv_condN h; cases Nat.eq_of_beq_eq_true q; exact ms_mostLen cx hd (hgo _ _ _ _ h)
    | 2, h => obtain ⟨q, h⟩ := inv_condN h; cases Nat.eq_of_beq_eq_true q; exact ms_namedLen cx hd (hgo _ _ _ _ h)
    | n + 3, h =>
      obtain ⟨q, h9⟩ := inv_condN h
      have e9 := Nat.eq_of_beq_eq_true q
      subst e9
      obtain ⟨x, h1, ⟨-, h2⟩ | ⟨q, -⟩⟩ := inv_Call h9
      · exact hscl pc ls r M x h1 hd (hgo _ _ _ _ h2)
      · omega
  case iaload =>
    cases L hck
    obtain ⟨i, a, r, rfl, h⟩ := inv_IR h
    match r1, h with
    | 0, h => obtain ⟨q, h⟩ := inv_condN h; obtain ⟨q2, h⟩ := inv_iteN h; exact ms_iaload cx q q2 hd (hgo _ _ _ _ h)
    | 1, h => obtain ⟨q, h⟩ := inv_condN h; cases Nat.eq_of_beq_eq_true q; obtain ⟨q2, h⟩ := inv_iteN h; exact ms_most cx q2 hd (hgo _ _ _ _ h)
    | 2, h => obtain ⟨q, h⟩ := inv_condN h; cases Nat.eq_of_beq_eq_true q; obtain ⟨q2, h⟩ := inv_iteN h; exact ms_named cx q2 hd (hgo _ _ _ _ h)
    | n + 3, h =>
      obtain ⟨q, h9⟩ := inv_condN h
      have e9 := Nat.eq_of_beq_eq_true q
      subst e9
      obtain ⟨x, h1, ⟨-, h2⟩ | ⟨q, -⟩⟩ := inv_Call h9
      · exact hscr pc ls r M i x h1 hd (hgo _ _ _ _ h2)
      · omega
  case caload => cases L hck; obtain ⟨i, a, r, rfl, h⟩ := inv_IR h; obtain ⟨q, h⟩ := inv_condN h; obtain ⟨q2, h⟩ := inv_iteN h; exact ms_caload cx q q2 hd (hgo _ _ _ _ h)
  case baload => cases L hck; obtain ⟨i, a, r, rfl, h⟩ := inv_IR h; obtain ⟨q, h⟩ := inv_condN h; obtain ⟨q2, h⟩ := inv_iteN h; exact ms_baload cx q q2 hd (hgo _ _ _ _ h)
  case laload => cases L hck; obtain ⟨i, a, r, rfl, h⟩ := inv_IR h; obtain ⟨q, h⟩ := inv_condN h; obtain ⟨q2, h⟩ := inv_iteN h; exact ms_laload cx q q2 hd (hgo _ _ _ _ h)
  case aaload =>
    cases L hck
    obtain ⟨i, a, r, rfl, h⟩ := inv_IR h
    obtain ⟨q, h⟩ := inv_condN h
    obtain ⟨q2, h⟩ := inv_iteN h
    obtain ⟨x, h1, h2⟩ := inv_Opt h
    exact ms_aaload cx q q2 h1 hd (hgo _ _ _ _ h2)
  case iastore => cases L hck; obtain ⟨x, i, a, r, rfl, h⟩ := inv_IIR h; obtain ⟨q, h⟩ := inv_condN h; obtain ⟨q2, h⟩ := inv_iteN h; exact ms_iastore cx q q2 hd (hgo _ _ _ _ h)
  case castore => cases L hck; obtain ⟨x, i, a, r, rfl, h⟩ := inv_IIR h; obtain ⟨q, h⟩ := inv_condN h; obtain ⟨q2, h⟩ := inv_iteN h; exact ms_castore cx q q2 hd (hgo _ _ _ _ h)
  case bastore => cases L hck; obtain ⟨x, i, a, r, rfl, h⟩ := inv_IIR h; obtain ⟨q, h⟩ := inv_condN h; obtain ⟨q2, h⟩ := inv_iteN h; exact ms_bastore cx q q2 hd (hgo _ _ _ _ h)
  case lastore => cases L hck; obtain ⟨x, i, a, r, rfl, h⟩ := inv_JIR h; obtain ⟨q, h⟩ := inv_condN h; obtain ⟨q2, h⟩ := inv_iteN h; exact ms_lastore cx q q2 hd (hgo _ _ _ _ h)
  case new i =>
    simp only [Bool.and_eq_true] at hck
    obtain ⟨⟨⟨hl, hk⟩, hci⟩, hnf⟩ := hck
    cases L hl
    have hci := Nat.le_of_ble_eq_true hci
    cases Nat.eq_of_beq_eq_true hnf
    have hg := hgr _ _ _ _ h
    have e1 : (mNew M (10 + r1) (mNf r1)).1.length = M.1.length + 1 := by simp [mNew]
    have e2 : mSl (mNew M (10 + r1) (mNf r1)) = mSl M + mNf r1 := by simp [mNew, mSl]
    rw [e1, e2] at hg
    exact fun H locs lsA hR => ms_new cx had hn0 hci hk (by omega) (by have := hR.1; omega) (by have := hR.2.1; omega) hd (hgo _ _ _ _ h) H locs lsA hR
  case newarray t =>
    cases L hck
    obtain ⟨n, r, rfl, h⟩ := inv_I1 h
    obtain ⟨q, h⟩ := inv_iteN h
    have hg : ∀ k, go (pc + 2) ls (mP M.1.length :: r) (mNew M k n.toNat) = some res → M.1.length + 1 ≤ res.2.1.length ∧ mSl M + n.toNat ≤ mSl res.2 := fun k hk => by
      have := hgr _ _ _ _ hk
      have e1 : (mNew M k n.toNat).1.length = M.1.length + 1 := by simp [mNew]
      have e2 : mSl (mNew M k n.toNat) = mSl M + n.toNat := by simp [mNew, mSl]
      rw [e1, e2] at this
      exact this
    cases t
    case int => exact fun H locs lsA hR => ms_newI cx had hn0 q (by have := hg _ h; omega) (by have := hg _ h; have := hR.1; omega) (by have := hg _ h; have := hR.2.1; omega) hd (hgo _ _ _ _ h) H locs lsA hR
    case long => exact fun H locs lsA hR => ms_newJ cx had hn0 q (by have := hg _ h; omega) (by have := hg _ h; have := hR.1; omega) (by have := hg _ h; have := hR.2.1; omega) hd (hgo _ _ _ _ h) H locs lsA hR
    case char => exact fun H locs lsA hR => ms_newC cx had hn0 q (by have := hg _ h; omega) (by have := hg _ h; have := hR.1; omega) (by have := hg _ h; have := hR.2.1; omega) hd (hgo _ _ _ _ h) H locs lsA hR
    case boolean => exact fun H locs lsA hR => ms_newZ cx had hn0 q (by have := hg _ h; omega) (by have := hg _ h; have := hR.1; omega) (by have := hg _ h; have := hR.2.1; omega) hd (hgo _ _ _ _ h) H locs lsA hR
    all_goals cases h
  case multianewarray i dd =>
    simp only [Bool.and_eq_true] at hck
    obtain ⟨⟨hl, hd2⟩, hk⟩ := hck
    cases L hl
    cases Nat.eq_of_beq_eq_true hd2
    obtain ⟨n, k, r, rfl, h⟩ := inv_I2 h
    obtain ⟨q, h⟩ := inv_iteN h
    have hg := hgr _ _ _ _ h
    have hl0 : (mNew M 4 n.toNat).1.length = M.1.length + 1 := by simp [mNew]
    have hs0 : mSl (mNew M 4 n.toNat) = mSl M + n.toNat := by simp [mNew, mSl]
    have e2 : (mMulti M n.toNat k.toNat).1.length = M.1.length + 1 + n.toNat := by
      have : (mMulti M n.toNat k.toNat).1.length = (mNews (mNew M 4 n.toNat) 0 k.toNat n.toNat).1.length := rfl
      rw [this, (mNews_len _).1, hl0]
    have e3 : mSl (mMulti M n.toNat k.toNat) = mSl M + n.toNat + n.toNat * k.toNat := by
      have : mSl (mMulti M n.toNat k.toNat) = mSl (mNews (mNew M 4 n.toNat) 0 k.toNat n.toNat) := rfl
      rw [this, (mNews_len _).2, hs0]
    rw [e2, e3] at hg
    exact fun H locs lsA hR => ms_multi cx had hn0 hk q (by omega) (by have := hR.1; omega) (by have := hR.2.1; omega) hd (hgo _ _ _ _ h) H locs lsA hR
  case invokespecial i =>
    rw [Bool.and_eq_true] at hck
    obtain ⟨hl, hck⟩ := hck
    cases L hl
    rcases inv_cond h with ⟨q, h⟩ | ⟨q, h⟩
    · rw [q] at hck
      obtain ⟨a, r, rfl, h⟩ := inv_R1 h
      obtain ⟨q2, h⟩ := inv_condF h
      exact ms_objInit cx hck (by omega) (by omega) (blt_le q2) hd (hgo _ _ _ _ h)
    · rw [q] at hck
      obtain ⟨as, r, rfl, hlen, h⟩ := inv_Take h
      rw [List.append_nil] at h
      obtain ⟨q2, h⟩ := inv_condF h
      obtain ⟨x, hx, hz9, h⟩ := call_go hsnd hck h
      have hg := hgr _ _ _ _ h
      exact ms_callI cx had hn0 hsnd hck hz9 hx hlen (by omega) (by omega) (blt_le q2) hRf hRl (by omega) (by omega) (fun em he => init_none he (mCkCall_at hck) ) hd (hgo _ _ _ _ h)
  case invokestatic i =>
    rw [Bool.and_eq_true] at hck
    obtain ⟨hl, hck⟩ := hck
    cases L hl
    rcases inv_cond h with ⟨q, h⟩ | ⟨q, h⟩
    · rw [q] at hck
      obtain ⟨n, dp, dd, sp, a, r, rfl, h1, h2, h3, h⟩ := inv_Copy h
      obtain ⟨q2, h⟩ := inv_condF h
      exact ms_copy cx hck h1 h2 h3 (by omega) (blt_le q2) (by omega) hd (hgo _ _ _ _ h)
    · rw [q] at hck
      obtain ⟨as, r, rfl, hlen, h⟩ := inv_Take h
      rw [List.append_nil] at h
      obtain ⟨q2, h⟩ := inv_condF h
      obtain ⟨x, hx, hz9, h⟩ := call_go hsnd hck h
      have hg := hgr _ _ _ _ h
      exact ms_callS cx had hn0 hsnd hck hz9 hx hlen (by omega) (by omega) (blt_le q2) hRf hRl (by omega) (by omega) hd (hgo _ _ _ _ h)
  case invokevirtual i =>
    rw [Bool.and_eq_true] at hck
    obtain ⟨hl, hck⟩ := hck
    cases L hl
    rcases inv_cond h with ⟨q, h7⟩ | ⟨q, h⟩
    · rw [q] at hck
      simp only [cond_true, Bool.and_eq_true] at hck
      have e1 := Nat.eq_of_beq_eq_true hck.1
      have e2 := Nat.eq_of_beq_eq_true hck.2
      subst e1
      subst e2
      obtain ⟨i, a, r, rfl, h8⟩ := inv_IR h7
      obtain ⟨q2, h9⟩ := inv_condN h8
      rw [Bool.and_eq_true, Bool.not_eq_true'] at q2
      have e3 := Nat.eq_of_beq_eq_true q2.1
      subst e3
      obtain ⟨q3, h10⟩ := inv_iteN h9
      exact hchr pc ls r M i rfl q3 (blt_le q2.2) (by have := hgr _ _ _ _ h10; omega) (by have := hgr _ _ _ _ h10; omega) hd (hgo _ _ _ _ h10)
    · rw [q] at hck
      obtain ⟨as, r, rfl, hlen, h⟩ := inv_Take h
      rw [List.append_nil] at h
      obtain ⟨q2, h⟩ := inv_condF h
      obtain ⟨x, hx, hz9, h⟩ := call_go hsnd hck h
      have hg := hgr _ _ _ _ h
      exact ms_callV cx had hn0 hsnd hck hz9 hx hlen (by omega) (by omega) (blt_le q2) hRf hRl (by omega) (by omega) hd (hgo _ _ _ _ h)
  case ireturn =>
    rw [Bool.and_eq_true, Bool.or_eq_true, Bool.and_eq_true, Bool.and_eq_true, decide_eq_true_eq, decide_eq_true_eq] at hck
    obtain ⟨hl, hck⟩ := hck
    cases L hl
    match st, h with
    | [Sum.inl a], h =>
      rcases hck with ⟨q1, q2⟩ | ⟨q1, q2⟩
      · cases Nat.eq_of_beq_eq_true q1
        have h : some (a, M) = some res := h
        exact hend pc ls _ a M (Option.some.inj h).symm (Or.inr (Or.inl ⟨q2, rfl, hd⟩))
      · cases Nat.eq_of_beq_eq_true q1
        have h : (if a = 0 ∨ a = 1 then some (a, M) else none) = some res := h
        obtain ⟨q3, h⟩ := inv_iteN h
        exact hend pc ls _ a M (Option.some.inj h).symm (Or.inr (Or.inr (Or.inl ⟨q2, rfl, q3, hd⟩)))
  case lreturn =>
    rw [Bool.and_eq_true, decide_eq_true_eq] at hck
    obtain ⟨hl, hck⟩ := hck
    cases L hl
    match st, h with
    | [Sum.inr (Sum.inl a)], h => exact hend pc ls _ a M (Option.some.inj h).symm (Or.inr (Or.inr (Or.inr ⟨hck, rfl, hd⟩)))
  case return_ =>
    rw [Bool.and_eq_true, decide_eq_true_eq] at hck
    obtain ⟨hl, hck⟩ := hck
    cases L hl
    match st, h with
    | [], h => exact hend pc ls _ 0 M (Option.some.inj h).symm (Or.inl ⟨hck, rfl, hd⟩)
  all_goals first | (cases h; done) | (cases hck; done)
end MSo
