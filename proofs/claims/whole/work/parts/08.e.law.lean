theorem law_sl {as : List mV} {M : mMem} {L : Nat} {xs : Int → Int} {x : Int × mMem} (h : lawO L xs 9995 as M = some x) : x = ((L : Int), M) := by
  unfold lawO at h
  rw [if_pos rfl] at h
  exact (Option.some.inj h).symm
theorem law_sr {i : Int} {M : mMem} {L : Nat} {xs : Int → Int} {x : Int × mMem} (h : lawO L xs 9996 [mI i] M = some x) : (0 ≤ i ∧ i < L) ∧ x = (xs i, M) := by
  unfold lawO at h
  rw [if_neg (by decide), if_pos rfl] at h
  obtain ⟨q, h⟩ := inv_iteN h
  exact ⟨q, (Option.some.inj h).symm⟩
theorem law_so {z : Nat} {as : List mV} {M : mMem} {L : Nat} {xs : Int → Int} (h : z < 9000) : lawO L xs z as M = mCallN 1000 z as M := by
  unfold lawO
  rw [if_neg (by omega), if_neg (by omega)]
theorem law_gr {L : Nat} {xs : Int → Int} : mGrows (lawO L xs) := by
  intro z as M x h
  by_cases h1 : z = 9995
  · subst h1; rw [law_sl h]; exact ⟨Nat.le_refl _, Nat.le_refl _⟩
  · by_cases h2 : z = 9996
    · subst h2
      unfold lawO at h
      rw [if_neg h1, if_pos rfl] at h
      split at h
      · obtain ⟨-, h⟩ := inv_iteN h
        cases h; exact ⟨Nat.le_refl _, Nat.le_refl _⟩
      · cases h
    · unfold lawO at h
      rw [if_neg h1, if_neg h2] at h
      exact mCallN_grows 1000 z as M x h
theorem law_snd {l : Launch} {D : va_G} {cA : Nat → ClassId} {ad : Nat → Nat} {base L : Nat} {xs : Int → Int} (had : ∀ a, a < 1000 → ad a = base + a) : mSnd l D cA ad base 1000 (lawO L xs) := ⟨law_gr, fun z as M r hz h => (mSnd_all (l := l) (D := D) (cA := cA) mGoodT_ok had mCharAt_ok 1000).2 z as M r hz (by rw [← law_so hz]; exact h)⟩
def lawAd (base tM tN tS b : Nat) (a : Nat) : Nat := if a < 1000 then base + a else if a = 1000 then tM else if a = 1001 then tN else if a = 1002 then tS else b
theorem law_K {s : State} {args : Array Value} (hts : ∀ w ∈ lw_tbl, w.before args s = true) : ∃ (D : va_G) (cA : Nat → ClassId), va_K D vwCl (mTys cA) s := by
  have hg : ∀ w ∈ mGW, w.before args s = true := fun w hw => hts w (List.mem_filter.mp hw).1
  have h1 : ∀ ci : Nat, ∃ q : ClassId × (Nat → Nat), ci < 11 → u_Kn s (mCN ci) (mTf ci) (mNf ci) q.1 q.2 := by
    intro ci
    by_cases hc : ci < 11
    · obtain ⟨cC, iS, h⟩ := u_known hg (cl_in hc) (hg _ (iT_at hc).1)
      exact ⟨(cC, iS), fun _ => h⟩
    · exact ⟨(0, fun _ => 0), fun h => absurd h hc⟩
  obtain ⟨q, hq⟩ := Classical.axiomOfChoice h1
  have ar : ∀ ty : FieldType, Cond.arrayClass ty ∈ lw_tbl → ∃ cB : ClassId, ArrOfT s cB ty ∧ s.vm.findClass ("[" ++ ty.toString) = some cB := by
    intro ty h
    obtain ⟨cB, k, comp, e1, e2, e3⟩ := Cond.arrayClass_spec (hts _ h)
    exact ⟨cB, fun n z => ⟨fun k h => (by cases h), k, e2, comp, e3⟩, e1⟩
  obtain ⟨cI, i1, i2⟩ := ar .int (by decide +kernel)
  obtain ⟨cJ, j1, j2⟩ := ar .long (by decide +kernel)
  obtain ⟨cC, c1, c2⟩ := ar .char (by decide +kernel)
  obtain ⟨cZ, z1, z2⟩ := ar .boolean (by decide +kernel)
  obtain ⟨comp, cG, kG, g1, g2, g3, g4⟩ := Cond.arrayOver_specA (hts (.arrayOver (.array .int)) (by decide +kernel))
  refine ⟨(fun c => (q c).1, fun c => (q c).2), fun k => match k with | 0 => cI | 1 => cJ | 2 => cC | 3 => cZ | _ => cG, fun ci r hr => ?_, fun k r hr => ?_⟩
  · have hci : ci < 11 := (List.getElem?_eq_some_iff.mp hr).1
    rw [vw_at ci hci] at hr
    cases hr
    exact hq ci hci
  · match k, hr with
    | 0, hr => cases hr; exact ⟨i1, i2⟩
    | 1, hr => cases hr; exact ⟨j1, j2⟩
    | 2, hr => cases hr; exact ⟨c1, c2⟩
    | 3, hr => cases hr; exact ⟨z1, z2⟩
    | 4, hr => cases hr; exact ⟨fun n z => ⟨fun k h => (by cases h), kG, g2, comp, g3⟩, g4⟩
theorem law_ext {s : State} {args : Array Value} (hts : ∀ w ∈ lw_tbl, w.before args s = true) (hgv : (Jvm.Cond.and given_1 narrow_1).before args s = true) (b : Nat) : ∃ tM tN tS : Nat, mExt (lawAd s.heap.size tM tN tS b) s.heap.size s := by
  have hs := flat_of_before _ hgv
  have hA : ∀ a : Nat, a < s.heap.size → ¬ mAd s.heap.size a := fun a h q => absurd (show s.heap.size ≤ a from q) (by omega)
  obtain ⟨tM, m1, m2⟩ := va_Tof (args := args) (s := s) (tm := .static "TenthMan" "MOST" "[I") (ty := .int) (N := 4) (f := fun j => .int (Int32.ofInt (xMost.getD j 0))) (A := mAd s.heap.size) (by decide) (hs _ (by decide +kernel)) (va_eqt (z := 4) (hs _ (by decide +kernel))) (fun j hj => by
    match j, hj with
    | 0, _ => exact va_eqt (z := 10) (hs _ (by decide +kernel))
    | 1, _ => exact va_eqt (z := 12) (hs _ (by decide +kernel))
    | 2, _ => exact va_eqt (z := 12) (hs _ (by decide +kernel))
    | 3, _ => exact va_eqt (z := 6) (hs _ (by decide +kernel))) hA
  obtain ⟨tN, n1, n2⟩ := va_Tof (args := args) (s := s) (tm := .static "TenthMan" "NAMED" "[I") (ty := .int) (N := 3) (f := fun j => .int (Int32.ofInt (xNamed.getD j 0))) (A := mAd s.heap.size) (by decide) (hs _ (by decide +kernel)) (va_eqt (z := 3) (hs _ (by decide +kernel))) (fun j hj => by
    match j, hj with
    | 0, _ => exact va_eqt (z := 0) (hs _ (by decide +kernel))
    | 1, _ => exact va_eqt (z := 1) (hs _ (by decide +kernel))
    | 2, _ => exact va_eqt (z := 3) (hs _ (by decide +kernel))) hA
  have z0 : ∀ i : Nat, i < 1 → i = 0 := fun i h => by omega
  obtain ⟨adK, adV, k1, k2⟩ := vk_Sof (args := args) (s := s) (N := 1) (tm := fun _ => .string "TenthMan$Reader" 199) (len := [132]) (byt := [xBytes]) (A := mAd s.heap.size) (fun i hi => by rw [z0 i hi]; decide) (fun i hi => hs _ (by decide +kernel)) (fun i hi => hs _ (by decide +kernel)) (fun i hi => hs _ (by decide +kernel)) (fun i hi => by rw [z0 i hi]; exact hs _ (by decide +kernel)) (fun i hi j hj => by
    rw [z0 i hi] at hj ⊢
    have hall : (List.range 132).all (fun j => decide ((Cond.eq (.elem (.field (.string "TenthMan$Reader" 199) "java/lang/String" "value" "[B") (.int (Int32.ofNat j))) (.int (([xBytes].getD 0 []).getD j 0))) ∈ flatC (Jvm.Cond.and given_1 narrow_1))) = true := by decide +kernel
    have := List.all_eq_true.mp hall j (List.mem_range.mpr hj)
    exact hs _ (of_decide_eq_true this)) (fun i j hi hj hij => absurd (by rw [z0 i hi, z0 j hj]) hij) hA
  refine ⟨tM, tN, adK 0, ?_⟩
  have a0 : lawAd s.heap.size tM tN (adK 0) b 1000 = tM := by unfold lawAd; simp
  have a1 : lawAd s.heap.size tM tN (adK 0) b 1001 = tN := by unfold lawAd; simp
  have a2 : lawAd s.heap.size tM tN (adK 0) b 1002 = adK 0 := by unfold lawAd; simp
  unfold mExt
  rw [a0, a1, a2]
  refine ⟨va_Zof (hts (.laysStatic "TenthMan" "MOST" "[I") (by decide +kernel)) (hts (.initialized "TenthMan") (by decide +kernel)) m1 hA, m2, va_Zof (hts (.laysStatic "TenthMan" "NAMED" "[I") (by decide +kernel)) (hts (.initialized "TenthMan") (by decide +kernel)) n1 hA, n2, vk_R.of (hts _ (by decide +kernel)) (k2 0 (by decide)), ⟨adV, ?_⟩, va_Zof (hts (.laysStatic "java/lang/String" "COMPACT_STRINGS" "Z") (by decide +kernel)) (hts (.initialized "java/lang/String") (by decide +kernel)) (va_eqi (hs _ (by decide +kernel))) hA, va_Zqof (hts (.laysStatic "jdk/internal/util/Preconditions" "SIOOBE_FORMATTER" "Ljava/util/function/BiFunction;") (by decide +kernel)) (hts (.initialized "jdk/internal/util/Preconditions") (by decide +kernel)) (hs _ (by decide +kernel)) hA, hts (.arrayOver (.array .int)) (by decide +kernel)⟩
  exact ⟨fun i hi => by have := k1.1 i hi; rw [z0 i hi] at this ⊢; exact this, fun i j hi hj _ => by rw [z0 i hi, z0 j hj]⟩
