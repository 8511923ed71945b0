/-! ===== town: a text with a fault ===== -/
theorem tw_pair (b : Bool) : (tw b = 4 ∧ tw (!b) = 77) ∨ (tw b = 77 ∧ tw (!b) = 4) := by cases b; exact Or.inr ⟨rfl, rfl⟩; exact Or.inl ⟨rfl, rfl⟩
theorem rowR_told {b : Bool} {μ μ' : Nat → Int → Int} (h1 : ∀ k, k ≤ 18 → μ' (tw b + k) = μ (tw b + k)) {f : Int → Int} (h : rowR b μ f) : rowR b μ' f := by
  unfold rowR at h ⊢
  rw [h1 1 (by decide), h1 10 (by decide), h1 13 (by decide)]; exact h
theorem R_fault {b : Bool} {μ μ' μ2 : Nat → Int → Int} {e : Int × Int} {T : Int → Int} {n : Int} (hR : R b μ) (hf : Dfr b μ μ') (hd : CDd T n μ' e) (hr : Rfr twJ (m2 μ' 2 1 0) μ2) (r1 : μ2 96 1 = 0) (r7 : μ2 96 7 = e.1) (r8 : μ2 96 8 = e.2) : R b μ2 := by
  have tp := tw_pair b
  have dm : ∀ a, a ∈ drC ↔ 120 ≤ a ∧ a ≤ 130 := fun a => by unfold drC; simp only [List.mem_cons, List.not_mem_nil, or_false]; omega
  have o1 : ∀ a, a ≠ 96 → ¬ (120 ≤ a ∧ a ≤ 130) → μ2 a = m2 μ' 2 1 0 a := fun a h9 h12 => hr.1.1 a (fun q => h12 ((dm a).1 q)) h9
  have o : ∀ a, a ≠ 1 → a ≠ 2 → a ≠ 96 → ¬ (tw (!b) ≤ a ∧ a ≤ tw (!b) + 18) → ¬ (120 ≤ a ∧ a ≤ 130) → μ2 a = μ a := fun a h1 h2 h9 hw h12 => by
    rw [o1 a h9 h12, m2_ne h2, hf.1 a h1 hw]
  have o96 : ∀ j, j ∉ twJ → μ2 96 j = μ 96 j := fun j hj => by
    rw [hr.1.2 j hj, m2_ne (by decide), hf.1 96 (by decide) (by omega)]
  have tl : ToldS μ μ2 := fun a ha h3 h7 x hx => by
    have := (dm a).1 ha
    rw [hr.2 a ha h3 h7 x hx, m2_ne (by omega), hf.1 a (by omega) (by omega)]
  have h1 : ∀ k, k ≤ 18 → μ2 (tw b + k) = μ (tw b + k) := fun k hk => o _ (by omega) (by omega) (by omega) (by omega) (by omega)
  obtain ⟨q1, q2, q3, q4, q5⟩ := hR
  have e74 := o 74 (by decide) (by decide) (by decide) (by omega) (by omega)
  refine ⟨Rtw_told h1 tl (o 134 (by decide) (by decide) (by decide) (by omega) (by omega)) q1, ⟨?_, ?_⟩, ?_, ?_, Rsta_told h1 tl (fun a ha => ?_) q1 q2.2 q5⟩
  · rw [e74, o 133 (by decide) (by decide) (by decide) (by omega) (by omega)]; exact q2.1
  · rw [e74]; exact rowR_told h1 q2.2
  · unfold Rhis at q3 ⊢
    obtain ⟨a1, a2, a3, a4⟩ := q3
    rw [o 50 (by decide) (by decide) (by decide) (by omega) (by omega), o 138 (by decide) (by decide) (by decide) (by omega) (by omega), o96 58 (by decide), o96 59 (by decide)]
    refine ⟨a1, a2, fun j j0 j1 => ?_, fun i i0 i1 => ?_⟩
    · rw [o (52 + j.toNat) (by omega) (by omega) (by omega) (by omega) (by omega)]; exact a3 j j0 j1
    · rw [o (52 + ((μ 50 1 - i) % 20).toNat) (by omega) (by omega) (by omega) (by omega) (by omega)]
      exact rowR_told h1 (a4 i i0 i1)
  · obtain ⟨m1, m2', m3, m4, m5, m6⟩ := q4
    have c2 : μ2 2 = m2 μ' 2 1 0 2 := o1 2 (by decide) (by omega)
    have c1 : μ2 1 = μ' 1 := by rw [o1 1 (by decide) (by omega), m2_ne (by decide)]
    refine ⟨⟨⟨?_, ?_, ?_⟩, fun i i0 i1 => ?_⟩, ⟨?_, ?_⟩, ?_, ?_, ?_, fun j hj i hi => ?_⟩
    · rw [r1, c2, m2_at, if_pos rfl]
    · rw [c2, m2_at, if_pos rfl]; decide
    · rw [c2, m2_at, if_pos rfl]; decide
    · rw [o 97 (by decide) (by decide) (by decide) (by omega) (by omega), o 3 (by decide) (by decide) (by decide) (by omega) (by omega)]; exact m1.2 i i0 i1
    · rw [r7, c1]; exact hd.2.2.1.symm
    · rw [r8, c1]; exact hd.2.2.2.2.1.symm
    · unfold Rsee at m3 ⊢
      rw [o96 67 (by decide), o 0 (by decide) (by decide) (by decide) (by omega) (by omega), o 76 (by decide) (by decide) (by decide) (by omega) (by omega), o 141 (by decide) (by decide) (by decide) (by omega) (by omega), h1 1 (by decide)]; exact m3
    · rw [o96 60 (by decide), o 0 (by decide) (by decide) (by decide) (by omega) (by omega)]; exact m4
    · unfold Rimg at m5 ⊢
      rw [o96 71 (by decide), o 72 (by decide) (by decide) (by decide) (by omega) (by omega), o 73 (by decide) (by decide) (by decide) (by omega) (by omega), o 143 (by decide) (by decide) (by decide) (by omega) (by omega)]; exact m5
    · rw [o (98 + j) (by omega) (by omega) (by omega) (by omega) (by omega)]; exact m6 j hj i hi
  · simp only [List.mem_cons, List.not_mem_nil, or_false] at ha
    exact o a (by omega) (by omega) (by omega) (by omega) (by omega)
