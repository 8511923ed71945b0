theorem rho51 {b : Bool} {i : Int} (h0 : 0 ≤ i) (h1 : i < 20) : RHO b 51 i = some (52 + i.toNat) := by
  show rhG 51 20 i = _
  unfold rhG
  rw [if_pos ⟨h0, h1⟩]
theorem shp_hist {j : Nat} (h : j < 20) : shp (52 + j) = (0, 62) := by
  have H : ∀ j : Fin 20, shp (52 + j.1) = (0, 62) := by decide
  exact H ⟨j, h⟩
def nx20 (x : Int) : Int := if x = 19 then 0 else x + 1
theorem iRem_nx {x : Int} (h0 : 0 ≤ x) (h1 : x < 20) : iRem (w32 (x + 1)) 20 = nx20 x := by
  have H : ∀ j : Fin 20, iRem (w32 (((j.1 : Nat) : Int) + 1)) 20 = nx20 (j.1 : Nat) := by decide +kernel
  have := H ⟨x.toNat, by omega⟩
  rwa [show ((x.toNat : Nat) : Int) = x by omega] at this
theorem sX0_keep (b : Bool) (μ : Nat → Int → Int) (h0 : 0 ≤ μ 50 1) (h1 : μ 50 1 < 20) (h2 : 0 ≤ μ 50 2) (h3 : μ 50 2 ≤ 20) : ∀ d, 2 ≤ d → mCallN d 11 [mP 50, mP 74] (SH, μ, RHO b) = some (0, SH, m2 (m2 (mCp μ 74 (52 + (μ 50 1).toNat) 0 0 62) 50 1 (nx20 (μ 50 1))) 50 2 (if μ 50 2 < 20 then μ 50 2 + 1 else 20), RHO b) := deep fun d hd => by
  refine call_X0_keep d b μ 74 ⟨1, ?_⟩
  have hq := shp_hist (j := (μ 50 1).toNat) (by omega)
  have e1 : mCp μ 74 (52 + (μ 50 1).toNat) 0 0 62 50 = μ 50 := m1_ne (by omega)
  have e2 : m2 (mCp μ 74 (52 + (μ 50 1).toNat) 0 0 62) 50 1 (nx20 (μ 50 1)) 50 2 = μ 50 2 := by rw [m2_at, if_neg (by decide), e1]
  have e3 : w32 (μ 50 2 + 1) = μ 50 2 + 1 := w32_id (by omega) (by omega)
  rw [tX0_keep_0, if_pos ⟨h0, h1⟩, rho51 h0 h1, mOpt, arr_of (a := 74) (N := 62) rfl, arr_of hq, Bool.and_true, cond_true, shape_of (a := 74) (N := 62) rfl, shape_of hq, if_pos (by refine ⟨by decide, by decide, by decide, by decide, by decide⟩), e1, iRem_nx h0 h1, e2, e3, sJ9_min _ _ b _ d hd, mOptR_some]
  by_cases e : μ 50 2 < 20
  · rw [if_pos e]; rw [if_neg (show ¬ (20 < μ 50 2 + 1) by omega)]
  · rw [if_neg e]; rw [if_pos (show (20 < μ 50 2 + 1) by omega)]
