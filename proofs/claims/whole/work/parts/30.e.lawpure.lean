/-! ===== the law from its first instruction: the pure statement ===== -/
theorem c_emp : cMem ([], [], []) = mEmp := by
  have e1 : (fun (a : Nat) (i : Int) => nuL (([] : List (List Int)).getD a []) i) = fun _ _ => 0 := by
    funext a i
    exact nuL_nil i
  have e2 : (fun (a : Nat) (i : Int) => rhL (([] : List (List (Option Nat))).getD a []) i) = fun _ _ => none := by
    funext a i
    exact rhL_nil i
  unfold cMem mEmp
  dsimp only
  rw [e1, e2]
set_option maxRecDepth 100000 in
theorem tL_law_0 (Φ : mOrc) (n : Nat) (M : mMem) : mRun Φ kL_law (n + 1) 0 [some (mP 1003), none, none, none] [] M = mOptR (Φ 233 [mP M.1.length] (mNew M 19 13)) (fun x => mOptR (Φ 59 [mP x.2.1.length] (mNew x.2 20 72)) (fun y => mRun Φ kL_law n 18 [some (mP 1003), some (mP M.1.length), some (mP x.2.1.length), some (mI 0)] [] y.2)) := by rfl
theorem law_at0 {L : Nat} {xs : Int → Int} (hL : L ≤ 3072) (hx : ∀ i, w32 (xs i) = xs i) : EL (fun n => mRun (lawO L xs) kL_law n 0 [some (mP 1003), none, none, none] [] mEmp) := by
  have h1 : lawO L xs 233 [mP 0] (mNew mEmp 19 13) = some (0, cMem cC1) := by
    rw [lawO_call (by decide), ← c_emp, ← cNew_ok c_new0]
    exact mCallN_mono (by decide) _ _ _ _ (cCallN_ok 5 233 [mP 0] cC0 cC1 c_run9)
  have h2 : lawO L xs 59 [mP 96] (mNew (cMem cC1) 20 72) = some (0, SH, mu0, RHO false) := by
    rw [lawO_call (by decide), ← cNew_ok c_new1]
    have := mCallN_mono (d := 5) (d' := 1000) (by decide) _ _ _ _ (cCallN_ok 5 59 [mP 96] cC2 cC3 c_run10)
    rw [c_fin] at this
    exact this
  have l1 : (cMem cC1).1.length = 96 := by decide +kernel
  refine el_row (fun n => tL_law_0 _ n mEmp) ?_
  refine el_call (A := fun x n => mOptR (lawO L xs 59 [mP x.2.1.length] (mNew x.2 20 72)) (fun y => mRun (lawO L xs) kL_law n 18 [some (mP 1003), some (mP 0), some (mP x.2.1.length), some (mI 0)] [] y.2)) h1 ?_
  show EL (fun n => mOptR (lawO L xs 59 [mP (cMem cC1).1.length] (mNew (cMem cC1) 20 72)) (fun y => mRun (lawO L xs) kL_law n 18 [some (mP 1003), some (mP 0), some (mP (cMem cC1).1.length), some (mI 0)] [] y.2))
  rw [l1]
  exact el_call (A := fun y n => mRun (lawO L xs) kL_law n 18 [some (mP 1003), some (mP 0), some (mP 96), some (mI 0)] [] y.2) h2 (law_from hL hx mu0_R)
theorem lawPure_ok : lawPure := by
  intro L xs hL hx
  obtain ⟨n, μ', b', e⟩ := law_at0 hL hx
  exact ⟨(SH, μ', RHO b'), ⟨n, e⟩, show SH.length ≤ 1000 by decide +kernel, show (SH.map (fun q => q.2)).sum ≤ 100000 by decide +kernel⟩
