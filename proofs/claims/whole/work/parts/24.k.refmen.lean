/-- the row as it stands, with the men of the reference's own row -/
def rowM (μ μ' : Nat → Int → Int) : Int → Int := fun x => if 2 ≤ x ∧ x < 14 then μ' 133 x else μ 74 x
theorem rowM_out {μ μ' : Nat → Int → Int} {x : Int} (h : x < 2 ∨ 14 ≤ x) : rowM μ μ' x = μ 74 x := if_neg (by omega)
theorem rowM_in {μ μ' : Nat → Int → Int} {g : Int} (h0 : 0 ≤ g) (h1 : g < 12) : rowM μ μ' (2 + g) = μ' 133 (2 + g) := if_pos (by omega)
theorem RefOK_men {b : Bool} {μ μ' : Nat → Int → Int} (hR : R b μ) (ht : ∀ a, a ∈ twL b → μ' a = μ a) (h3 : ∀ x, (x < 2 ∨ 14 ≤ x) → μ' 133 x = μ 133 x) (hm : ∀ g, 0 ≤ g → g < μ (tw b + 1) 2 → 0 ≤ μ' 133 (2 + g) ∧ μ' 133 (2 + g) < μ (tw b + 1) 1) : RefOK b μ' (rowM μ μ') := by
  have hC := Rcnt_C hR.1.1
  obtain ⟨q1, q2, q3, q4, q5, q6, q7, q8⟩ := R_refOK hR
  have hO : RefOK b μ (rowM μ μ') → RefOK b μ (rowM μ μ') := id
  have k1 := ht (tw b + 1) (by simp [twL])
  have hT := Rtw_same ht hR.1
  refine ⟨hT.1, hT.2.2.2.2.2.2.2, hT.2.2.2.1, hT.2.1, ⟨fun i i0 i1 => ?_, fun p p0 p1 => ?_⟩, ⟨?_, ?_, fun m m0 m1 => ?_, fun p p0 p1 => ?_⟩, fun g g0 g1 => ?_, fun p p0 p1 => ?_⟩
  · by_cases c : 2 ≤ i ∧ i < 14
    · show _ = rowM μ μ' i
      unfold rowM; rw [if_pos c]
    · rw [rowM_out (by omega), h3 i (by omega)]; exact q5.1 i i0 i1
  · rw [rowM_out (by omega), rowM_out (by omega), rowM_out (by omega), rowM_out (by omega), h3 _ (by omega), h3 _ (by omega), h3 _ (by omega), h3 _ (by omega)]; exact q5.2 p p0 p1
  · rw [rowM_out (by omega)]; exact q6.1
  · rw [rowM_out (by omega)]; exact q6.2.1
  · rw [rowM_out (by omega)]; exact q6.2.2.1 m m0 m1
  · rw [rowM_out (by omega)]; exact q6.2.2.2 p p0 p1
  · rw [k1] at g1 ⊢
    rw [rowM_in g0 (by omega)]; exact hm g g0 g1
  · rw [k1] at p1
    rw [rowM_out (by omega), rowM_out (by omega), rowM_out (by omega), ht 134 (by simp [twL])]; exact q8 p p0 p1
