/-! ===== new int[n][k] ===== -/
section MS7
variable {p : Program} {l : Launch} {e : Env} {R : Room} {s : State} {m : MethodId} {args : Array Value} {below : List Frame} {meth : Method} {c : Code} {Q : State → Prop} {D : va_G} {cA : Nat → ClassId} {ad : Nat → Nat} {base n0 s0 ml o kind : Nat} {bs : ByteArray} {pc : Nat} {ls : mLs} {st : List mV} {M : mMem}
theorem mNews_len {M : mMem} {k n : Nat} : ∀ c, (mNews M k n c).1.length = M.1.length + c ∧ mSl (mNews M k n c) = mSl M + c * n
  | 0 => ⟨rfl, by show mSl M = _; omega⟩
  | c + 1 => by
    have h := mNews_len (M := M) (k := k) (n := n) c
    refine ⟨?_, ?_⟩
    · show (mNew (mNews M k n c) k n).1.length = _
      have : (mNew (mNews M k n c) k n).1.length = (mNews M k n c).1.length + 1 := by simp [mNew]
      rw [this, h.1]; omega
    · show mSl (mNew (mNews M k n c) k n) = _
      have : mSl (mNew (mNews M k n c) k n) = mSl (mNews M k n c) + n := by simp [mNew, mSl]
      rw [this, h.2, Nat.succ_mul]; omega
theorem mNews_ok {M : mMem} {n : Nat} (h1 : mShOk M) (h2 : mOkM M) : ∀ c, mShOk (mNews M 0 n c) ∧ mOkM (mNews M 0 n c)
  | 0 => ⟨h1, h2⟩
  | c + 1 => ⟨mShOk_new (mNews_ok h1 h2 c).1 (Or.inl (by decide)), mOkM_new (mNews_ok h1 h2 c).2⟩
theorem mWl_news {M : mMem} {n : Nat} : ∀ c, mWl ad cA (mNews M 0 n c) = mWl ad cA M ++ (List.range c).map (fun i => (ad (M.1.length + i), .inl (cA 0, n, .inl (fun _ => (0 : Int32)))))
  | 0 => by simp [mNews]
  | c + 1 => by
    show mWl ad cA (mNew (mNews M 0 n c) 0 n) = _
    rw [mWl_new, mWl_news c, List.range_succ, List.map_append, List.append_assoc]
    congr 2
    have e0 : mArrI (mNew (mNews M 0 n c) 0 n) (mNews M 0 n c).1.length = (fun _ => 0) := by
      unfold mArrI
      have : (mNew (mNews M 0 n c) 0 n).2.1 (mNews M 0 n c).1.length = (fun _ => 0) := m1_at
      rw [this]; rfl
    have e1 : mEntry ad cA (mNew (mNews M 0 n c) 0 n) (mNews M 0 n c).1.length = .inl (cA 0, n, .inl (fun _ => (0 : Int32))) := by
      unfold mEntry; rw [mShape_last]; simp only [e0]
    rw [e1, (mNews_len (M := M) (k := 0) (n := n) c).1]
    rfl
theorem mNews_at {M : mMem} {k n a : Nat} (h : a < M.1.length) : ∀ c, mShape (mNews M k n c) a = mShape M a ∧ (mNews M k n c).2.1 a = M.2.1 a ∧ (mNews M k n c).2.2 a = M.2.2 a
  | 0 => ⟨rfl, rfl, rfl⟩
  | c + 1 => by
    have ih := mNews_at (k := k) (n := n) h c
    have hl : a < (mNews M k n c).1.length := by rw [(mNews_len c).1]; omega
    exact ⟨(mShape_new hl).trans ih.1, (m1_ne (Nat.ne_of_lt hl)).trans ih.2.1, (m1_ne (Nat.ne_of_lt hl)).trans ih.2.2⟩
theorem mWl_multi {M : mMem} {n k : Nat} : mWl ad cA (mMulti M n k) = (mWl ad cA M ++ [(ad M.1.length, .inl (cA 4, n, .inr (.inr (.inr (.inr (fun i => if i < n then some (ad (M.1.length + 1 + i)) else none))))))]) ++ (List.range n).map (fun i => (ad (M.1.length + 1 + i), .inl (cA 0, k, .inl (fun _ => (0 : Int32))))) := by
  have hl0 : (mNew M 4 n).1.length = M.1.length + 1 := by simp [mNew]
  have hsh : mShape (mMulti M n k) M.1.length = (4, n) := by
    have h1 : mShape (mMulti M n k) M.1.length = mShape (mNews (mNew M 4 n) 0 k n) M.1.length := rfl
    rw [h1, (mNews_at (by rw [hl0]; omega) n).1, mShape_last]
  have hE : mEntry ad cA (mMulti M n k) M.1.length = .inl (cA 4, n, .inr (.inr (.inr (.inr (fun i => if i < n then some (ad (M.1.length + 1 + i)) else none))))) := by
    have e0 : mArrR ad (mMulti M n k) M.1.length = (fun i => if i < n then some (ad (M.1.length + 1 + i)) else none) := by
      funext i
      unfold mArrR
      have e1 : (mMulti M n k).2.2 M.1.length = (fun j : Int => if 0 ≤ j ∧ j < n then some (M.1.length + 1 + j.toNat) else none) := m1_at
      rw [e1]
      show Option.map ad (if (0 : Int) ≤ (i : Int) ∧ (i : Int) < n then some (M.1.length + 1 + (i : Int).toNat) else none) = _
      by_cases q : i < n
      · rw [if_pos (by omega), if_pos q]; rfl
      · rw [if_neg (by omega), if_neg q]; rfl
    unfold mEntry; rw [hsh]; simp only [e0]
  rw [← mWl_set (M := mNews (mNew M 4 n) 0 k n) (N := mMulti M n k) (a := M.1.length) rfl (fun b hb => ⟨rfl, m1_ne hb⟩) hE, mWl_news, mWl_new, hl0]
  rw [List.set_append_left _ _ (by simp [mWl]), List.set_append_right _ _ (by simp [mWl])]
  simp [mWl]
theorem ms_multi (cx : mCx p s m args meth c o kind bs ml D cA ad base) (had : ∀ a, a < 1000 → ad a = base + a) (hn0 : s.heap.size = base + n0) {i : Nat} {n k : Int} (hlk : mHas3 gT o i = true) (hN : 0 ≤ n ∧ n < 1000 ∧ 0 ≤ k ∧ k < 1000) (hn : M.1.length + 1 + n.toNat ≤ 1000) (hRc : M.1.length - n0 + (1 + n.toNat) ≤ R.cells) (hRs : mSl M - s0 + (n.toNat + n.toNat * k.toNat) ≤ R.slots) (hd : decode bs pc = .ok (.multianewarray i 2, 4)) (kk : mG p l e R s m args below meth c Q D cA ad base n0 s0 ml (pc + 4) ls (mP M.1.length :: st) (mMulti M n.toNat k.toNat)) : mG p l e R s m args below meth c Q D cA ad base n0 s0 ml pc ls (mI k :: mI n :: st) M := by
  intro H locs lsA hR hs hl hL
  obtain ⟨hwk, hs⟩ := mOkS_c.mp hs
  obtain ⟨hwn, hs⟩ := mOkS_c.mp hs
  have nn : ∀ {x : Int}, w32 x = x → 0 ≤ x → ¬ Int32.ofInt x < 0 := fun hw h q => by rw [← o32_0, o32_lt hw w32_0] at q; omega
  refine mW_size fun hz => ?_
  have hsz : H.size = base + M.1.length := by
    have h1 := hR.1
    have h2 := hR.2.2.2.2.2.2.1
    rcases Nat.lt_or_ge n0 M.1.length with q | q
    · have h3 := (hR.2.2.2.2.1 (M.1.length - 1) _ (mWl_at (by omega))).lt
      have h4 : ad (M.1.length - 1) < H.size := h3
      rw [had _ (by omega)] at h4
      omega
    · omega
  have hb2 : k.toNat * componentBytes .int ≤ 536870912 := Nat.le_trans (Nat.mul_le_mul (show k.toNat ≤ 1000 by omega) (show componentBytes .int ≤ 8 by decide)) (by decide)
  have hlink : (Cond.classLink (mCN o) i ("[" ++ (FieldType.array .int).toString)).before args s = true := by
    have e1 : "[" ++ (FieldType.array .int).toString = "[[I" := by decide +kernel
    rw [e1]; exact cx.2.2.2.2.1 _ (gT_at hlk)
  refine va_mna (X := mWl ad cA M) (L := []) (f := fun _ => .inr (0, [])) (ty := .int) (cy := cA 0) (n := Int32.ofInt n) (k := Int32.ofInt k) (N' := n.toNat) (K' := k.toNat) (z := (k.toNat, .inl (fun _ => 0))) cx.1 cx.2.1 cx.2.2.2.1 hlink cx.2.2.2.2.2.2.2.2.2.2.2.2.2.2.2.2 (cx.2.2.2.2.1 (.arrayClass .int) (mGW_of ⟨by decide +kernel, by decide +kernel⟩)) (cx.2.2.2.2.2.2.1.2 0 _ rfl).2 cx.2.2.2.2.2.2.1 (by simpa [va_pl] using hR.2.2.2.2.1) (by simpa [va_pl] using hR.2.2.2.2.2.1) hR.2.2.2.2.2.2 (fun q h => by show base ≤ q; omega) (nn hwn hN.1) (nn hwk hN.2.2.1) (o32_cl hwn) (o32_cl hwk) (by omega) hb2 (by omega) rfl rfl hRc hRs (fun cB => by
    show ({ cls := cB, slots := Array.replicate k.toNat (.int 0), vm := .none } : Cell) = _
    rw [arrV_new]; rfl) hd (fun q r cB H1 hq hr h1 h2 hK hP hD hS => ?_)
  subst hq
  subst hr
  have hcB : cB = cA 4 := ra_grid cx cB (hK.2 5 (cB, .array .int) rfl).2
  subst hcB
  have e1 : (mWl ad cA M ++ [(H.size, .inl (cA 4, n.toNat, .inr (.inr (.inr (.inr (fun i => if i < n.toNat then some (H.size + 1 + i) else none))))))]) ++ va_pl ([] ++ (List.range n.toNat).map (fun i => H.size + 1 + i)) (vr_up (fun _ => .inr (0, [])) ((List.range n.toNat).map (fun i => H.size + 1 + i)) (.inl (cA 0, (k.toNat, .inl (fun _ => 0))))) = mWl ad cA (mMulti M n.toNat k.toNat) := by
    rw [mWl_multi]
    have a0 : ad M.1.length = H.size := by rw [had _ (by omega), hsz]
    have a1 : ∀ i, i < n.toNat → ad (M.1.length + 1 + i) = H.size + 1 + i := fun i hi => by rw [had _ (by omega), hsz]; omega
    congr 1
    · have hf : (fun i => if i < n.toNat then some (H.size + 1 + i) else none) = (fun i => if i < n.toNat then some (ad (M.1.length + 1 + i)) else none) := by
        funext i
        by_cases q : i < n.toNat
        · rw [if_pos q, if_pos q, a1 i q]
        · rw [if_neg q, if_neg q]
      rw [a0, hf]
    · unfold va_pl
      rw [List.nil_append, List.map_map]
      apply List.map_congr_left
      intro i hi
      have hi := List.mem_range.mp hi
      show (H.size + 1 + i, vr_up _ _ _ (H.size + 1 + i)) = _
      rw [vr_up_in (List.mem_map.mpr ⟨i, List.mem_range.mpr hi, rfl⟩), a1 i hi]
  rw [e1] at hP hD
  have hl0 : (mNew M 4 n.toNat).1.length = M.1.length + 1 := by simp [mNew]
  have hs0 : mSl (mNew M 4 n.toNat) = mSl M + n.toNat := by simp [mNew, mSl]
  have e2 : (mMulti M n.toNat k.toNat).1.length = M.1.length + 1 + n.toNat := by
    have : (mMulti M n.toNat k.toNat).1.length = (mNews (mNew M 4 n.toNat) 0 k.toNat n.toNat).1.length := rfl
    rw [this, (mNews_len _).1, hl0]
  have e3 : mSl (mMulti M n.toNat k.toNat) = mSl M + n.toNat + n.toNat * k.toNat := by
    have : mSl (mMulti M n.toNat k.toNat) = mSl (mNews (mNew M 4 n.toNat) 0 k.toNat n.toNat) := rfl
    rw [this, (mNews_len _).2, hs0]
  have hok := mNews_ok (mShOk_new (k := 4) (n := n.toNat) hR.2.2.1 (Or.inl (by decide))) (mOkM_new (k := 4) (n := n.toNat) hR.2.2.2.1) (n := k.toNat) n.toNat
  have k' := kk H1 locs lsA ⟨by rw [e2]; have := hR.1; omega, by rw [e3]; have := hR.2.1; omega, hok.1, hok.2, hP, hD, hS⟩ (mOkS_c.mpr ⟨trivial, hs⟩) hl hL
  rw [e2, e3, show M.1.length + 1 + n.toNat - n0 = M.1.length - n0 + 1 + n.toNat by have := hR.1; omega, show mSl M + n.toNat + n.toNat * k.toNat - s0 = mSl M - s0 + n.toNat + n.toNat * k.toNat by have := hR.2.1; omega] at k'
  have a0 : ad M.1.length = H.size := by rw [had _ (by omega), hsz]
  have e4 : (mP M.1.length :: st).map (mCv ad) = .ref H.size :: st.map (mCv ad) := by
    show Value.ref (ad M.1.length) :: _ = _
    rw [a0]
  rw [e4] at k'
  exact k'
end MS7
