/-! ===== a whole run; the methods by depth ===== -/
section MRn
variable {p : Program} {l : Launch} {e : Env} {R : Room} {s : State} {m : MethodId} {args : Array Value} {below : List Frame} {meth : Method} {c : Code} {Q : State → Prop} {D : va_G} {cA : Nat → ClassId} {ad : Nat → Nat} {base n0 s0 ml o kind : Nat} {bs : ByteArray} {ret : Option FieldType}
def mCodOk (o kind : Nat) (ret : Option FieldType) (bs : ByteArray) (k : mCod) : Prop := ∀ pc ent, k pc = some ent → mCkE o kind ret bs pc ent = true
theorem mFwd_sound {d : Nat} {Φ : mOrc} {res : Int × mMem} (E : mEnv p l e R s m args below meth c Q D cA ad base n0 s0 ml o kind bs ret d Φ res) {k : mCod} (hk : mCodOk o kind ret bs k) {g : mGo}
    (hg : ∀ pc' ls' st' M', g pc' ls' st' M' = some res → mG p l e R s m args below meth c Q D cA ad base n0 s0 ml pc' ls' st' M') (hgr : ∀ pc' ls' st' M', g pc' ls' st' M' = some res → M'.1.length ≤ res.2.1.length ∧ mSl M' ≤ mSl res.2) : ∀ (f pc : Nat) (ls : mLs) (st : List mV) (M : mMem), mFwd Φ k g f pc ls st M = some res → mG p l e R s m args below meth c Q D cA ad base n0 s0 ml pc ls st M
  | 0, _, _, _, _, h => by cases h
  | f + 1, pc, ls, st, M, h => by
    unfold mFwd at h
    cases hc : k pc with
    | none => rw [hc] at h; cases h
    | some ent =>
      rw [hc] at h
      dsimp only at h
      refine mStep_sound E (hk pc ent hc) h (fun pc' ls' st' M' h' => ?_) (fun pc' ls' st' M' h' => ?_)
      · rcases inv_cond h' with ⟨-, h'⟩ | ⟨-, h'⟩
        · exact hg _ _ _ _ h'
        · exact mFwd_sound E hk hg hgr f _ _ _ _ h'
      · rcases inv_cond h' with ⟨-, h'⟩ | ⟨-, h'⟩
        · exact hgr _ _ _ _ h'
        · exact mFwd_gr E.2.2.2.1.1 hgr f _ _ _ _ h'
theorem mRun_sound {d : Nat} {Φ : mOrc} {res : Int × mMem} (E : mEnv p l e R s m args below meth c Q D cA ad base n0 s0 ml o kind bs ret d Φ res) {k : mCod} (hk : mCodOk o kind ret bs k) : ∀ (n pc : Nat) (ls : mLs) (st : List mV) (M : mMem), mRun Φ k n pc ls st M = some res → mG p l e R s m args below meth c Q D cA ad base n0 s0 ml pc ls st M
  | 0, _, _, _, _, h => by cases h
  | n + 1, pc, ls, st, M, h => mFwd_sound E hk (fun _ _ _ _ h' => mRun_sound E hk n _ _ _ _ h') (fun _ _ _ _ h' => mRun_gr E.2.2.2.1.1 n _ _ _ _ h') 1000 pc ls st M h
end MRn
noncomputable def mCallN : Nat → mOrc
  | 0 => fun _ _ _ => none
  | d + 1 => fun z as M => match mtab[z]? with
    | some (some e) => bif mRecv e as M && Nat.ble (mIniL as).length e.2.2.2.1 then mLim (mCallN d) e.2.2.2.2.2.2.2.2.2.2 (mIni as e.2.2.2.1) M else none
    | _ => none
theorem mCallN_inv {d z : Nat} {as : List mV} {M : mMem} {r : Int × mMem} (h : mCallN (d + 1) z as M = some r) : ∃ e, mtab[z]? = some (some e) ∧ mRecv e as M = true ∧ (mIniL as).length ≤ e.2.2.2.1 ∧ mEv (mCallN d) e.2.2.2.2.2.2.2.2.2.2 0 (mIni as e.2.2.2.1) [] M r := by
  unfold mCallN at h
  split at h
  · rename_i e he
    obtain ⟨q, h⟩ := inv_condN h
    rw [Bool.and_eq_true] at q
    exact ⟨e, he, q.1, Nat.le_of_ble_eq_true q.2, mLim_iff.mp h⟩
  · cases h
theorem mCallN_of {d z : Nat} {as : List mV} {M : mMem} {r : Int × mMem} {e : mMe} (he : mtab[z]? = some (some e)) (h1 : mRecv e as M = true) (h2 : Nat.ble (mIniL as).length e.2.2.2.1 = true) (h : mEv (mCallN d) e.2.2.2.2.2.2.2.2.2.2 0 (mIni as e.2.2.2.1) [] M r) : mCallN (d + 1) z as M = some r := by
  unfold mCallN
  rw [he]
  show (bif _ then _ else _) = _
  rw [h1, h2]
  exact mLim_iff.mpr h
theorem mCallN_le : ∀ d, mLe (mCallN d) (mCallN (d + 1))
  | 0 => fun _ _ _ _ h => by cases h
  | d + 1 => fun z as M r h => by
    obtain ⟨e, he, h1, h2, h3⟩ := mCallN_inv h
    exact mCallN_of he h1 (Nat.ble_eq_true_of_le h2) (mEv_le (mCallN_le d) h3)
theorem mCallN_mono {d d' : Nat} (h : d ≤ d') : mLe (mCallN d) (mCallN d') := by
  induction h with
  | refl => exact fun _ _ _ _ h => h
  | step _ ih => exact fun z as M r h => mCallN_le _ z as M r (ih z as M r h)
theorem mCallN_grows : ∀ d, mGrows (mCallN d)
  | 0 => fun _ _ _ _ h => by cases h
  | d + 1 => fun z as M r h => by
    obtain ⟨e, -, -, -, n, h3⟩ := mCallN_inv h
    exact mRun_gr (mCallN_grows d) n _ _ _ _ h3
