/-! ===== the makers of objects, run over lists: one instruction, a method, calls by depth ===== -/
def cNx (pc : Nat) (ls : mLs) (st : List mV) (x : Option cS) : Option (Nat × mLs × List mV × cS) := match x with
  | some S => some (pc, ls, st, S)
  | none => none
theorem cNx_ok {pc pc' : Nat} {ls ls' : mLs} {st st' : List mV} {x : Option cS} {S' : cS} (h : cNx pc ls st x = some (pc', ls', st', S')) : x = some S' ∧ pc' = pc ∧ ls' = ls ∧ st' = st := by
  unfold cNx at h
  cases x with
  | none => cases h
  | some S => cases h; exact ⟨rfl, rfl, rfl, rfl⟩
def cStep (Ψ : Nat → List mV → cS → Option cS) (e : mEnt) (pc : Nat) (ls : mLs) (st : List mV) (S : cS) : Option (Nat × mLs × List mV × cS) :=
  match e with
  | (_, ins, len, r1, r2, z, _) => match ins with
    | .iconst i => some (pc + len, ls, mI i :: st, S)
    | .bipush i => some (pc + len, ls, mI i :: st, S)
    | .sipush i => some (pc + len, ls, mI i :: st, S)
    | .lconst i => some (pc + len, ls, mJ i :: st, S)
    | .aload_n n => match ls[(n : Nat)]? with
      | some (some (Sum.inr (Sum.inr v))) => some (pc + len, ls, Sum.inr (Sum.inr v) :: st, S)
      | _ => none
    | .dup => match st with
      | Sum.inr (Sum.inr v) :: r => some (pc + len, ls, Sum.inr (Sum.inr v) :: Sum.inr (Sum.inr v) :: r, S)
      | _ => none
    | .getstatic _ => some (pc + len, ls, mP r1 :: st, S)
    | .arraylength => match st with
      | Sum.inr (Sum.inr (some a)) :: r => bif Nat.beq r1 1 && Nat.beq a 1000 then some (pc + len, ls, mI 4 :: r, S) else none
      | _ => none
    | .getfield _ => match st with
      | Sum.inr (Sum.inr (some a)) :: r => bif mObj (cMem S) a z.toNat && Nat.beq r2 2 then some (pc + len, ls, Sum.inr (Sum.inr (rhL (S.2.2.getD a []) r1)) :: r, S) else none
      | _ => none
    | .putfield _ => match st with
      | Sum.inl x :: Sum.inr (Sum.inr (some a)) :: r => bif mObj (cMem S) a z.toNat && Nat.beq r2 0 then cNx (pc + len) ls r (cSetM S a r1 x) else none
      | Sum.inr (Sum.inl x) :: Sum.inr (Sum.inr (some a)) :: r => bif mObj (cMem S) a z.toNat && Nat.beq r2 1 then cNx (pc + len) ls r (cSetM S a r1 x) else none
      | Sum.inr (Sum.inr x) :: Sum.inr (Sum.inr (some a)) :: r => bif mObj (cMem S) a z.toNat && Nat.beq r2 2 then cNx (pc + len) ls r (cSetR S a r1 x) else none
      | _ => none
    | .castore => match st with
      | Sum.inl x :: Sum.inl (Int.ofNat i) :: Sum.inr (Sum.inr (some a)) :: r => bif mArr (cMem S) a 2 && decide (0 ≤ Int.ofNat i ∧ Int.ofNat i < (mShape (cMem S) a).2 ∧ 0 ≤ x ∧ x < 128) then cNx (pc + len) ls r (cSetM S a i x) else none
      | _ => none
    | .new _ => cNx (pc + len) ls (mP S.1.length :: st) (cNew S (10 + r1) r2)
    | .newarray t => match st with
      | Sum.inl n :: r => bif decide (0 ≤ n ∧ n < 100000) then (match t with
        | .int => cNx (pc + len) ls (mP S.1.length :: r) (cNew S 0 n.toNat)
        | .long => cNx (pc + len) ls (mP S.1.length :: r) (cNew S 1 n.toNat)
        | .char => cNx (pc + len) ls (mP S.1.length :: r) (cNew S 2 n.toNat)
        | .boolean => cNx (pc + len) ls (mP S.1.length :: r) (cNew S 3 n.toNat)
        | _ => none) else none
      | _ => none
    | .multianewarray _ _ => match st with
      | Sum.inl k :: Sum.inl n :: r => bif decide (0 ≤ n ∧ n < 1000 ∧ 0 ≤ k ∧ k < 1000) then cNx (pc + len) ls (mP S.1.length :: r) (cMulti S n.toNat k.toNat) else none
      | _ => none
    | .invokespecial _ => match st with
      | Sum.inr (Sum.inr (some a)) :: r => bif Nat.blt 4 r.length then none else bif Nat.beq r1 9998 then some (pc + len, ls, r, S) else bif Nat.beq r2 1 && decide (z = 10) then cNx (pc + len) ls r (Ψ r1 [mP a] S) else none
      | _ => none
    | _ => none
theorem cStep_ok {Ψ : Nat → List mV → cS → Option cS} {Φ : mOrc} (hΨ : ∀ z as S S', Ψ z as S = some S' → Φ z as (cMem S) = some (0, cMem S')) {e : mEnt} {pc pc' : Nat} {ls ls' : mLs} {st st' : List mV} {S S' : cS} (h : cStep Ψ e pc ls st S = some (pc', ls', st', S')) (go : Nat → mLs → List mV → mMem → mRes) : mStep Φ e pc ls st (cMem S) go = go pc' ls' st' (cMem S') := by
  obtain ⟨b0, ins, len, r1, r2, z, sw⟩ := e
  unfold cStep at h
  dsimp only at h
  split at h
  · cases h; rfl
  · cases h; rfl
  · cases h; rfl
  · cases h; rfl
  · split at h
    · rename_i n _ v hv
      cases h
      unfold mStep
      dsimp only
      unfold mLoad mLd
      rw [hv]
      rfl
    · cases h
  · split at h
    · cases h; rfl
    · cases h
  · cases h; rfl
  · split at h
    · obtain ⟨q, h⟩ := c_cond h
      cases h
      rw [Bool.and_eq_true] at q
      have q1 := Nat.eq_of_beq_eq_true q.1
      have q2 := Nat.eq_of_beq_eq_true q.2
      subst q1 q2
      rfl
    · cases h
  · split at h
    · rename_i a r
      obtain ⟨q, h⟩ := c_cond h
      cases h
      rw [Bool.and_eq_true] at q
      have q2 := Nat.eq_of_beq_eq_true q.2
      subst q2
      show (bif mObj (cMem S) a z.toNat then go (pc + len) ls (mGetF (cMem S) a r1 2 :: r) (cMem S) else none) = _
      rw [q.1]
      rfl
    · cases h
  · split at h
    · rename_i x a r
      obtain ⟨q, h⟩ := c_cond h
      obtain ⟨hw, rfl, rfl, rfl⟩ := cNx_ok h
      rw [Bool.and_eq_true] at q
      have q2 := Nat.eq_of_beq_eq_true q.2
      subst q2
      show (bif mObj (cMem S) a z.toNat then mPutF (cMem S) a r1 0 (Sum.inl x) (fun M => go (pc + len) ls' st' M) else none) = _
      rw [q.1, cSetM_ok hw]
      rfl
    · rename_i x a r
      obtain ⟨q, h⟩ := c_cond h
      obtain ⟨hw, rfl, rfl, rfl⟩ := cNx_ok h
      rw [Bool.and_eq_true] at q
      have q2 := Nat.eq_of_beq_eq_true q.2
      subst q2
      show (bif mObj (cMem S) a z.toNat then mPutF (cMem S) a r1 1 (Sum.inr (Sum.inl x)) (fun M => go (pc + len) ls' st' M) else none) = _
      rw [q.1, cSetM_ok hw]
      rfl
    · rename_i x a r
      obtain ⟨q, h⟩ := c_cond h
      obtain ⟨hw, rfl, rfl, rfl⟩ := cNx_ok h
      rw [Bool.and_eq_true] at q
      have q2 := Nat.eq_of_beq_eq_true q.2
      subst q2
      show (bif mObj (cMem S) a z.toNat then mPutF (cMem S) a r1 2 (Sum.inr (Sum.inr x)) (fun M => go (pc + len) ls' st' M) else none) = _
      rw [q.1, cSetR_ok hw]
      rfl
    · cases h
  · split at h
    · rename_i x i a r
      obtain ⟨q, h⟩ := c_cond h
      obtain ⟨hw, rfl, rfl, rfl⟩ := cNx_ok h
      rw [Bool.and_eq_true] at q
      show (bif mArr (cMem S) a 2 then (if 0 ≤ Int.ofNat i ∧ Int.ofNat i < (mShape (cMem S) a).2 ∧ 0 ≤ x ∧ x < 128 then go (pc + len) ls' st' ((cMem S).1, m2 (cMem S).2.1 a (Int.ofNat i) x, (cMem S).2.2) else none) else none) = _
      rw [q.1, if_pos (of_decide_eq_true q.2), cSetM_ok hw]
      rfl
    · cases h
  · obtain ⟨hw, rfl, rfl, rfl⟩ := cNx_ok h
    show go (pc + len) ls' (mP S.1.length :: st) (mNew (cMem S) (10 + r1) r2) = _
    rw [cNew_ok hw]
  · split at h
    · rename_i n r
      obtain ⟨q, h⟩ := c_cond h
      have q := of_decide_eq_true q
      split at h
      · obtain ⟨hw, rfl, rfl, rfl⟩ := cNx_ok h
        show (if 0 ≤ n ∧ n < 100000 then go (pc + len) ls' (mP S.1.length :: r) (mNew (cMem S) 0 n.toNat) else none) = _
        rw [if_pos q, cNew_ok hw]
      · obtain ⟨hw, rfl, rfl, rfl⟩ := cNx_ok h
        show (if 0 ≤ n ∧ n < 100000 then go (pc + len) ls' (mP S.1.length :: r) (mNew (cMem S) 1 n.toNat) else none) = _
        rw [if_pos q, cNew_ok hw]
      · obtain ⟨hw, rfl, rfl, rfl⟩ := cNx_ok h
        show (if 0 ≤ n ∧ n < 100000 then go (pc + len) ls' (mP S.1.length :: r) (mNew (cMem S) 2 n.toNat) else none) = _
        rw [if_pos q, cNew_ok hw]
      · obtain ⟨hw, rfl, rfl, rfl⟩ := cNx_ok h
        show (if 0 ≤ n ∧ n < 100000 then go (pc + len) ls' (mP S.1.length :: r) (mNew (cMem S) 3 n.toNat) else none) = _
        rw [if_pos q, cNew_ok hw]
      · cases h
    · cases h
  · split at h
    · rename_i k n r
      obtain ⟨q, h⟩ := c_cond h
      have q := of_decide_eq_true q
      obtain ⟨hw, rfl, rfl, rfl⟩ := cNx_ok h
      show (if 0 ≤ n ∧ n < 1000 ∧ 0 ≤ k ∧ k < 1000 then go (pc + len) ls' (mP S.1.length :: r) (mMulti (cMem S) n.toNat k.toNat) else none) = _
      rw [if_pos q, cMulti_ok hw]
    · cases h
  · split at h
    · rename_i a r
      cases q : Nat.blt 4 r.length with
      | true => rw [q] at h; cases h
      | false =>
        rw [q] at h
        cases q1 : Nat.beq r1 9998 with
        | true =>
          rw [q1] at h
          cases h
          show (bif Nat.beq r1 9998 then (bif Nat.blt 4 st'.length then none else go (pc + len) ls st' (cMem S)) else _) = _
          rw [q1, q]
          rfl
        | false =>
          rw [q1] at h
          obtain ⟨w, h⟩ := c_cond (show (bif Nat.beq r2 1 && decide (z = 10) then cNx (pc + len) ls r (Ψ r1 [mP a] S) else none) = _ from h)
          obtain ⟨hw, rfl, rfl, rfl⟩ := cNx_ok h
          rw [Bool.and_eq_true] at w
          have w1 := Nat.eq_of_beq_eq_true w.1
          have w2 := of_decide_eq_true w.2
          subst w1 w2
          show (bif Nat.beq r1 9998 then _ else (bif Nat.blt 4 st'.length then none else mCall 10 (cMem S) (Φ r1 [mP a] (cMem S)) (fun st M => go (pc + len) ls' (st ++ st') M))) = _
          rw [q1, q, hΨ _ _ _ _ hw]
          rfl
    · cases h
  · cases h
/-! a method -/
def cRet (e : mEnt) (st : List mV) : Bool := match e.2.1 with
  | .return_ => st.isEmpty
  | _ => false
theorem cRet_ok {Φ : mOrc} {e : mEnt} {pc : Nat} {ls : mLs} {st : List mV} {M : mMem} (h : cRet e st = true) (go : Nat → mLs → List mV → mMem → mRes) : mStep Φ e pc ls st M go = some (0, M) := by
  obtain ⟨b0, ins, len, r1, r2, z, sw⟩ := e
  unfold cRet at h
  dsimp only at h
  split at h
  · cases st with
    | nil => rfl
    | cons v r => cases h
  · cases h
def cFwd (Ψ : Nat → List mV → cS → Option cS) (c : mCod) : Nat → Nat → mLs → List mV → cS → Option cS
  | 0, _, _, _, _ => none
  | f + 1, pc, ls, st, S => match c pc with
    | none => none
    | some e => bif cRet e st then some S else match cStep Ψ e pc ls st S with
      | none => none
      | some x => bif mCut c x.1 then none else cFwd Ψ c f x.1 x.2.1 x.2.2.1 x.2.2.2
theorem cFwd_ok {Ψ : Nat → List mV → cS → Option cS} {Φ : mOrc} (hΨ : ∀ z as S S', Ψ z as S = some S' → Φ z as (cMem S) = some (0, cMem S')) {c : mCod} {k : Nat → mLs → List mV → mMem → mRes} : ∀ (f pc : Nat) (ls : mLs) (st : List mV) (S : cS) {S' : cS}, cFwd Ψ c f pc ls st S = some S' → mFwd Φ c k f pc ls st (cMem S) = some (0, cMem S')
  | 0, _, _, _, _, _, h => by cases h
  | f + 1, pc, ls, st, S, S', h => by
    unfold cFwd at h
    unfold mFwd
    cases hc : c pc with
    | none => rw [hc] at h; cases h
    | some e =>
      rw [hc] at h
      dsimp only at h ⊢
      cases q : cRet e st with
      | true =>
        rw [q] at h
        cases h
        exact cRet_ok q _
      | false =>
        rw [q] at h
        cases q1 : cStep Ψ e pc ls st S with
        | none => rw [q1] at h; cases h
        | some x =>
          rw [q1] at h
          obtain ⟨pc', ls', st', S1⟩ := x
          rw [cStep_ok hΨ q1]
          cases q2 : mCut c pc' with
          | true =>
            have h : (bif mCut c pc' then none else cFwd Ψ c f pc' ls' st' S1) = some S' := h
            rw [q2] at h; cases h
          | false =>
            have h : (bif mCut c pc' then none else cFwd Ψ c f pc' ls' st' S1) = some S' := h
            rw [q2] at h
            show mFwd Φ c k f pc' ls' st' (cMem S1) = _
            exact cFwd_ok hΨ f pc' ls' st' S1 h
noncomputable def cCallN : Nat → Nat → List mV → cS → Option cS
  | 0 => fun _ _ _ => none
  | d + 1 => fun z as S => match mtab[z]? with
    | some (some e) => bif mRecv e as (cMem S) && Nat.ble (mIniL as).length e.2.2.2.1 then cFwd (cCallN d) e.2.2.2.2.2.2.2.2.2.2 1000 0 (mIni as e.2.2.2.1) [] S else none
    | _ => none
theorem cCallN_ok : ∀ (d z : Nat) (as : List mV) (S S' : cS), cCallN d z as S = some S' → mCallN d z as (cMem S) = some (0, cMem S')
  | 0, _, _, _, _, h => by cases h
  | d + 1, z, as, S, S', h => by
    unfold cCallN at h
    split at h
    · rename_i e he
      obtain ⟨q, h⟩ := c_cond h
      rw [Bool.and_eq_true] at q
      exact mCallN_of he q.1 q.2 ⟨1, cFwd_ok (cCallN_ok d) 1000 0 _ [] S h⟩
    · cases h
