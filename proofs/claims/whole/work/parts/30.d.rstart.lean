/-! ===== all is tied at the beginning ===== -/
def mu0 : Nat → Int → Int := fun a i => nuL (cM3.getD a []) i
theorem mu0_z {a : Nat} (h : cM3.getD a [] = []) : mu0 a = fun _ => 0 := by
  funext i
  show nuL (cM3.getD a []) i = 0
  rw [h]
  exact nuL_nil i
theorem mu0_c : mu0 (tw false + 1) 0 = 0 ∧ mu0 (tw false + 1) 1 = 0 ∧ mu0 (tw false + 1) 2 = 0 ∧ mu0 (tw false + 1) 3 = 0 := by decide +kernel
theorem mu0_Rtw : Rtw false mu0 := by
  obtain ⟨c0, c1, c2, c3⟩ := mu0_c
  refine ⟨?_, ?_, ?_, ?_, ?_, ?_, ?_, ?_⟩
  · unfold Rcnt
    decide +kernel
  · intro g g0 g1; rw [c2] at g1; omega
  · intro g h g0 g1; rw [c2] at g1; omega
  · intro g g0 g1; rw [c1] at g1; omega
  · intro g g0 g1; rw [c3] at g1; omega
  · intro g g0 g1; rw [c3] at g1; omega
  · refine ⟨?_, ?_, ?_⟩
    · intro g g0 g1; rw [c0] at g1; omega
    · intro g g0 g1; rw [c1] at g1; omega
    · intro g g0 g1; rw [c3] at g1; omega
  · intro g g0 g1; rw [c1] at g1; omega
theorem Rrow_00 : Rrow (fun _ => 0) (fun _ => 0) := ⟨fun _ _ _ => rfl, fun _ _ _ => ⟨rfl, rfl, rfl, rfl⟩⟩
theorem rowOK_00 {C gm tc : Int → Int} (c1 : C 1 = 0) (c2 : C 2 = 0) (c3 : C 3 = 0) : rowOK C gm tc (fun _ => 0) := by
  have z : (0 : Int) ≤ 0 := by decide
  have z999 : (0 : Int) ≤ 999 := by decide
  have z23 : (0 : Int) ≤ 23 := by decide
  have z200 : (0 : Int) ≤ 200 := by decide
  have z4096 : (0 : Int) < 4096 := by decide
  refine ⟨⟨⟨z, z999⟩, ⟨z, z23⟩, fun _ _ _ => ⟨z, z200⟩, fun _ _ _ => ⟨z, z4096⟩⟩, ?_, ?_, ?_, fun _ _ _ => rfl, fun _ _ _ => z, fun _ _ _ => ⟨rfl, rfl⟩, ?_, fun _ _ _ => z, fun _ _ _ => ⟨rfl, rfl, rfl, rfl⟩, ?_⟩
  · intro g g0 g1; rw [c2] at g1; omega
  · intro g h g0 g1; rw [c2] at g1; omega
  · intro m
    constructor
    · rintro ⟨g, g0, g1, -⟩; rw [c2] at g1; omega
    · rintro ⟨g, g0, g1, -⟩; rw [c2] at g1; omega
  · intro g g0 g1; rw [c3] at g1; omega
  · rw [c3]
    rfl
theorem mu0_Rnow : Rnow false mu0 := by
  obtain ⟨c0, c1, c2, c3⟩ := mu0_c
  unfold Rnow rowR
  rw [mu0_z (a := 74) (by decide +kernel), mu0_z (a := 133) (by decide +kernel)]
  exact ⟨Rrow_00, rowOK_00 c1 c2 c3⟩
theorem mu0_h : ∀ k : Nat, k < 20 → cM3.getD (52 + k) [] = [] := by decide +kernel
theorem mu0_Rhis : Rhis false mu0 := by
  have e : mu0 50 2 = 0 := by decide +kernel
  refine ⟨by decide +kernel, by decide +kernel, fun j j0 j1 => ?_, fun i i0 i1 => ?_⟩
  · rw [mu0_z (a := 138) (by decide +kernel), mu0_z (mu0_h j.toNat (by omega))]
    exact Rrow_00
  · rw [e] at i1; omega
theorem mu0_w : ∀ j : Nat, j < 22 → ∀ i : Nat, i < wLen.getD j 0 → mu0 (98 + j) i = xWords.getD (6 * j + i) 0 := by decide +kernel
theorem mu0_Rmsc : Rmsc false mu0 := by
  refine ⟨⟨by decide +kernel, fun i _ _ => ?_⟩, by decide +kernel, ⟨by decide +kernel, fun k k0 k1 => ?_⟩, by decide +kernel, ⟨by decide +kernel, fun i i0 i1 => ?_⟩, mu0_w⟩
  · rw [mu0_z (a := 97) (by decide +kernel), mu0_z (a := 3) (by decide +kernel)]
    exact ⟨rfl, show (0 : Int) ≤ 0 by decide, show (0 : Int) ≤ 255 by decide⟩
  · rw [show mu0 0 10 = 0 by decide +kernel] at k1; omega
  · rw [show mu0 72 1 = 0 by decide +kernel] at i1; omega
theorem mu0_Rsta : Rsta false mu0 := by
  have e1 : mu0 44 4 = 0 := by decide +kernel
  have e2 : mu0 46 4 = 0 := by decide +kernel
  refine ⟨Or.inl e1, Or.inl e2, fun h => ?_, fun h => ?_⟩
  · rw [e1] at h; exact absurd h (by decide)
  · rw [e2] at h; exact absurd h (by decide)
theorem mu0_R : R false mu0 := ⟨mu0_Rtw, mu0_Rnow, mu0_Rhis, mu0_Rmsc, mu0_Rsta⟩
