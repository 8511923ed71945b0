/-! ===== town: a text without a fault, the town ===== -/
theorem TyL_R : ∀ (L : List Int) (c : Int → Int) (fr : Int) (ts ts' : List Bool), (∀ i : Nat, i < L.length → c (fr + (i : Int)) = L.getD i 0) → TyL L ts ts' → TyR c L.length fr ts ts'
  | [], _, _, _, _, _, h => h
  | y :: L, c, fr, ts, ts', hc, ⟨t1, h1, h2⟩ => by
    refine ⟨t1, ?_, TyL_R L c (fr + 1) t1 ts' (fun i hi => ?_) h2⟩
    · have := hc 0 (by simp)
      rw [show fr + ((0 : Nat) : Int) = fr by omega] at this
      rw [this]; exact h1
    · have := hc (i + 1) (by rw [List.length_cons]; omega)
      rw [show fr + ((i + 1 : Nat) : Int) = fr + 1 + (i : Int) by omega] at this
      rw [this]; rfl
theorem getD_mid {A B X : List Int} {i : Nat} (h : i < B.length) : (A ++ B ++ X).getD (A.length + i) 0 = B.getD i 0 := by
  rw [List.append_assoc, List.getD_eq_getElem?_getD, List.getD_eq_getElem?_getD, List.getElem?_append_right (by omega), show A.length + i - A.length = i by omega, List.getElem?_append_left h]
theorem nodup_inj {L : List (Int × Int × Int)} (h : (L.map (fun x => x.2.2)).Nodup) {i j : Nat} (hi : i < L.length) (hj : j < L.length) (e : (L.getD i z3).2.2 = (L.getD j z3).2.2) : i = j := by
  have hp := List.pairwise_iff_getElem.1 h
  have gi : L.getD i z3 = L[i] := by rw [List.getD_eq_getElem?_getD, List.getElem?_eq_getElem hi]; rfl
  have gj : L.getD j z3 = L[j] := by rw [List.getD_eq_getElem?_getD, List.getElem?_eq_getElem hj]; rfl
  rw [gi, gj] at e
  rcases Nat.lt_trichotomy i j with q | q | q
  · exact absurd (by rw [List.getElem_map, List.getElem_map]; exact e) (hp i j (by simpa using hi) (by simpa using hj) q)
  · exact q
  · exact absurd (by rw [List.getElem_map, List.getElem_map]; exact e.symm) (hp j i (by simpa using hj) (by simpa using hi) q)
theorem nat_of {i : Int} (h : 0 ≤ i) : ∃ k : Nat, i = (k : Int) := ⟨i.toNat, by omega⟩
theorem Rtw_new {b : Bool} {μ' ν1 ν' : Nat → Int → Int} {N : Nat → List (List Int)} {ML : List (Int × Int × Int × Int)} {GL : List (Int × Int × Int)} {PL : List (Int × Int × Int × Int)} {C : List Int} {H : Int} (hc : Cl b μ' (N, ML, GL, PL, C, H)) (hl : Rl ν1 (N, ML, GL, PL, C, H)) (hD : DOk (N, ML, GL, PL, C, H)) (hC : C.length ≤ 1600) (hs : Std ν1 ν' C.length GL.length (N 3).length) (hk : ∀ k, 1 ≤ k → k ≤ 18 → ν' (tw (!b) + k) = μ' (tw (!b) + k)) : Rtw (!b) ν' := by
  obtain ⟨c1, c2, c3, c4, c5, c6⟩ := hc
  obtain ⟨l1, l2, l3, l4, l5, l6, l7⟩ := hl
  obtain ⟨hN, ⟨n0, n1, n3⟩, ⟨k1, k2, k3⟩, kH, dM, dG, dn, dP⟩ := hD
  obtain ⟨⟨s120, s121, s124, s125, s122, s128, s129, s130, s126⟩, s133, s134, s96, so⟩ := hs
  have t1 := hk 1 (by decide) (by decide)
  have z0 : μ' (tw (!b) + 1) 0 = ((N 0).length : Int) := (c1 0 (by decide) (by decide)).1
  have z1 : μ' (tw (!b) + 1) 1 = ((N 1).length : Int) := (c1 1 (by decide) (by decide)).1
  have z3' : μ' (tw (!b) + 1) 3 = ((N 3).length : Int) := (c1 3 (by decide) (by decide)).1
  have z2 : μ' (tw (!b) + 1) 2 = (GL.length : Int) := c3.1
  have y0 : ν1 120 0 = ((N 0).length : Int) := (l1 0 (by decide) (by decide)).1
  have y1 : ν1 120 1 = ((N 1).length : Int) := (l1 1 (by decide) (by decide)).1
  have y2 : ν1 120 2 = ((N 3).length : Int) := (l1 3 (by decide) (by decide)).1
  refine ⟨?_, fun g g0 g1 => ?_, fun g h g0 g1 h0 h1 e => ?_, fun m m0 m1 => ?_, fun p p0 p1 => ?_, fun p p0 p1 => ?_, ⟨fun i i0 i1 => ?_, fun i i0 i1 => ?_, fun i i0 i1 => ?_⟩, fun m m0 m1 => ?_⟩
  · unfold Rcnt
    rw [t1, z0, z1, z2, z3', s120 4, s120 5, s120 6, s120 7, if_pos (by decide), if_pos (by decide), if_pos (by decide), if_pos (by decide), show (4 : Int) - 4 = 0 by decide, show (5 : Int) - 4 = 1 by decide, show (6 : Int) - 4 = 2 by decide, show (7 : Int) - 4 = 3 by decide, y0, y1, y2, l4.1]
    omega
  · rw [t1, z2] at g1
    obtain ⟨i, rfl⟩ := nat_of g0
    have hi : i < GL.length := by omega
    obtain ⟨u1, u2, u3⟩ := c3.2 i hi
    obtain ⟨w1, w2, w3⟩ := l4.2 i hi
    obtain ⟨v1, v2, v3, v4⟩ := dG _ (getD_memP (z := z3) hi)
    rw [hk 8 (by decide) (by decide), hk 9 (by decide) (by decide), hk 10 (by decide) (by decide), t1, z0, z1, u1, u2, u3, s124, s124, s124, if_pos (by omega), if_pos (by omega), if_pos (by omega), show 36 + 3 * (i : Int) - 36 = 3 * (i : Int) by omega, show 36 + 3 * (i : Int) + 1 - 36 = 3 * (i : Int) + 1 by omega, show 36 + 3 * (i : Int) + 2 - 36 = 3 * (i : Int) + 2 by omega, w1, w2, w3]
    exact ⟨⟨rfl, rfl, rfl⟩, v1, v2, v3, v4⟩
  · rw [t1, z2] at g1 h1
    obtain ⟨i, rfl⟩ := nat_of g0
    obtain ⟨j, rfl⟩ := nat_of h0
    rw [hk 10 (by decide) (by decide), (c3.2 i (by omega)).2.2, (c3.2 j (by omega)).2.2] at e
    have := nodup_inj dn (by omega) (by omega) e
    omega
  · rw [t1, z1] at m1
    obtain ⟨i, rfl⟩ := nat_of m0
    have hi : i < ML.length := by omega
    have v1 := (dM _ (getD_memP (z := z4) hi)).1
    rw [hk 7 (by decide) (by decide), (c2 i hi).2.2.2, s122, if_pos (by omega), show 12 + (i : Int) - 12 = (i : Int) by omega, (l2 i hi).2.2.2]
    exact ⟨rfl, v1⟩
  · rw [t1, z3'] at p1
    obtain ⟨i, rfl⟩ := nat_of p0
    have hi : i < PL.length := by omega
    have v1 := (dP _ (getD_memP (z := z4) hi)).2.2.2
    rw [hk 14 (by decide) (by decide), (c4 i hi).2.2.2, s134 _ p0 p1, (l5 i hi).2.2.2]
    exact ⟨rfl, v1⟩
  · rw [t1, z3'] at p1
    obtain ⟨i, rfl⟩ := nat_of p0
    have hi : i < PL.length := by omega
    have v1 := (dP _ (getD_memP (z := z4) hi)).2.2.1
    rw [hk 13 (by decide) (by decide), (c4 i hi).2.2.1, s125, if_pos (by omega), show 24 + 4 * (i : Int) + 2 - 24 = 4 * (i : Int) + 2 by omega, (l5 i hi).2.2.1]
    exact ⟨rfl, v1⟩
  · rw [t1, z0] at i1
    obtain ⟨j, rfl⟩ := nat_of i0
    have hj : j < (N 0).length := by omega
    have hg := (hN 0 (by decide) (by decide)).2 _ (getD_memN hj)
    have e1 : μ' (tw (!b) + 3) (j : Int) = _ := (c1 0 (by decide) (by decide)).2 j hj
    have e2 := (l1 0 (by decide) (by decide)).2 j hj
    rw [show 12 * rk 0 + (j : Int) = (j : Int) by rw [show rk 0 = 0 from rfl]; omega] at e2
    rw [hk 3 (by decide) (by decide), e1, s121, if_pos (by omega), show 36 + (j : Int) - 36 = (j : Int) by omega, e2]
    exact ⟨_, hg.1, hg.2.1, hg.2.2, rfl, rfl⟩
  · rw [t1, z1] at i1
    obtain ⟨j, rfl⟩ := nat_of i0
    have hj : j < (N 1).length := by omega
    have hg := (hN 1 (by decide) (by decide)).2 _ (getD_memN hj)
    have e1 : μ' (tw (!b) + 4) (j : Int) = _ := (c1 1 (by decide) (by decide)).2 j hj
    have e2 := (l1 1 (by decide) (by decide)).2 j hj
    rw [show 12 * rk 1 + (j : Int) = 48 + (j : Int) - 36 by rw [show rk 1 = 1 from rfl]; omega] at e2
    rw [hk 4 (by decide) (by decide), e1, s121, if_pos (by omega), e2]
    exact ⟨_, hg.1, hg.2.1, hg.2.2, rfl, rfl⟩
  · rw [t1, z3'] at i1
    obtain ⟨j, rfl⟩ := nat_of i0
    have hj : j < (N 3).length := by omega
    have hg := (hN 3 (by decide) (by decide)).2 _ (getD_memN hj)
    have e1 : μ' (tw (!b) + 6) (j : Int) = _ := (c1 3 (by decide) (by decide)).2 j hj
    have e2 := (l1 3 (by decide) (by decide)).2 j hj
    rw [show 12 * rk 3 + (j : Int) = 60 + (j : Int) - 36 by rw [show rk 3 = 2 from rfl]; omega] at e2
    rw [hk 6 (by decide) (by decide), e1, s121, if_pos (by omega), e2]
    exact ⟨_, hg.1, hg.2.1, hg.2.2, rfl, rfl⟩
  · rw [t1, z1] at m1
    obtain ⟨i, rfl⟩ := nat_of m0
    have hi : i < ML.length := by omega
    obtain ⟨u1, u2, u3, -⟩ := c2 i hi
    obtain ⟨w1, w2, w3, -⟩ := l2 i hi
    obtain ⟨-, A, B, E, F, x1, x2, x3, x4, x5, x6⟩ := dM _ (getD_memP (z := z4) hi)
    have hlen : C.length = A.length + B.length + E.length + F.length := by rw [x1, List.length_append, List.length_append, List.length_append]
    have cc : ∀ j, 0 ≤ j → j < (C.length : Int) → ν' 126 (1600 + j) = C.getD j.toNat 0 ∧ μ' (tw (!b) + 15) j = cOf (C.getD j.toNat 0) := fun j j0 j1 => by
      obtain ⟨k, rfl⟩ := nat_of j0
      refine ⟨?_, ?_⟩
      · rw [s126, if_pos (by omega), show 1600 + (k : Int) - 1600 = (k : Int) by omega, l6.2 k (by omega), Int.toNat_natCast]
      · rw [c5.2 k (by omega), Int.toNat_natCast]
    rw [hk 16 (by decide) (by decide), hk 17 (by decide) (by decide), hk 18 (by decide) (by decide), hk 15 (by decide) (by decide), u1, u2, u3, s128, s129, s130, if_pos (by omega), if_pos (by omega), if_pos (by omega), show 12 + (i : Int) - 12 = (i : Int) by omega, w1, w2, w3, x2, x3, x4]
    refine ⟨⟨rfl, rfl, rfl⟩, by omega, by omega, by omega, by omega, fun j j0 j1 => ?_, ?_, ?_⟩
    · obtain ⟨a1, a2⟩ := cc j (by omega) (by omega)
      rw [a1, a2]
    · rw [show ((A.length : Int) + (B.length : Int) - (A.length : Int)).toNat = B.length by omega]
      refine TyL_R B _ _ _ _ (fun k hk' => ?_) x5
      show ν' 126 (1600 + ((A.length : Int) + (k : Int))) = _
      rw [(cc _ (by omega) (by omega)).1, show ((A.length : Int) + (k : Int)).toNat = A.length + k by omega, x1, List.append_assoc (A ++ B)]
      exact getD_mid hk'
    · rw [show ((A.length : Int) + (B.length : Int) + (E.length : Int) - ((A.length : Int) + (B.length : Int))).toNat = E.length by omega]
      refine TyL_R E _ _ _ _ (fun k hk' => ?_) x6
      show ν' 126 (1600 + ((A.length : Int) + (B.length : Int) + (k : Int))) = _
      rw [(cc _ (by omega) (by omega)).1, show ((A.length : Int) + (B.length : Int) + (k : Int)).toNat = (A ++ B).length + k by rw [List.length_append]; omega, x1]
      exact getD_mid hk'
