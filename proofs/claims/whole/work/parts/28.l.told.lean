/-! ===== town: what is told stays, though the draft changes ===== -/
theorem TyR_cg {c c' : Int → Int} : ∀ (k : Nat) (i : Int) (ts ts' : List Bool), (∀ j, i ≤ j → j < i + k → c' j = c j) → TyR c k i ts ts' → TyR c' k i ts ts'
  | 0, _, _, _, _, h => h
  | k + 1, i, ts, ts', hc, ⟨t1, h1, h2⟩ => ⟨t1, by rw [hc i (by omega) (by omega)]; exact h1, TyR_cg k (i + 1) t1 ts' (fun j j0 j1 => hc j (by omega) (by omega)) h2⟩
theorem evR_cg {ask c c' : Int → Int} : ∀ (k : Nat) (i : Int) (vs : List Int), (∀ j, i ≤ j → j < i + k → c' j = c j) → evR ask c' k i vs = evR ask c k i vs
  | 0, _, _, _ => rfl
  | k + 1, i, vs, hc => by
    unfold evR
    rw [hc i (by omega) (by omega)]
    exact evR_cg k (i + 1) _ (fun j j0 j1 => hc j (by omega) (by omega))
def ToldS (μ μ' : Nat → Int → Int) : Prop := ∀ a, a ∈ drC → a ≠ 123 → a ≠ 127 → ∀ x, toldAt a ≤ x → μ' a x = μ a x
theorem Rtw_told {b : Bool} {μ μ' : Nat → Int → Int} (h1 : ∀ k, k ≤ 18 → μ' (tw b + k) = μ (tw b + k)) (h2 : ToldS μ μ') (h3 : μ' 134 = μ 134) (hR : Rtw b μ) : Rtw b μ' := by
  obtain ⟨r1, r2, r3, r4, r5, r6, r7, r8⟩ := hR
  have e120 := h2 120 (by decide) (by decide) (by decide)
  have e121 := h2 121 (by decide) (by decide) (by decide)
  have e122 := h2 122 (by decide) (by decide) (by decide)
  have e124 := h2 124 (by decide) (by decide) (by decide)
  have e125 := h2 125 (by decide) (by decide) (by decide)
  have e126 := h2 126 (by decide) (by decide) (by decide)
  have e128 := h2 128 (by decide) (by decide) (by decide)
  have e129 := h2 129 (by decide) (by decide) (by decide)
  have e130 := h2 130 (by decide) (by decide) (by decide)
  have t1 := h1 1 (by decide)
  refine ⟨?_, fun g g0 g1 => ?_, ?_, fun m m0 m1 => ?_, fun p p0 p1 => ?_, fun p p0 p1 => ?_, ⟨fun i i0 i1 => ?_, fun i i0 i1 => ?_, fun i i0 i1 => ?_⟩, fun m m0 m1 => ?_⟩
  · unfold Rcnt at r1 ⊢
    rw [t1, e120 4 (by decide), e120 5 (by decide), e120 6 (by decide), e120 7 (by decide)]; exact r1
  · rw [t1] at g1 ⊢
    have := r2 g g0 g1
    rw [h1 8 (by decide), h1 9 (by decide), h1 10 (by decide), e124 (36 + 3 * g) (by show (36 : Int) ≤ _; omega), e124 (36 + 3 * g + 1) (by show (36 : Int) ≤ _; omega), e124 (36 + 3 * g + 2) (by show (36 : Int) ≤ _; omega)]; exact this
  · unfold Rinj at r3 ⊢
    rw [t1, h1 10 (by decide)]; exact r3
  · rw [t1] at m1
    rw [h1 7 (by decide), e122 (12 + m) (by show (12 : Int) ≤ _; omega)]; exact r4 m m0 m1
  · rw [t1] at p1
    rw [h1 14 (by decide), h3]; exact r5 p p0 p1
  · rw [t1] at p1
    rw [h1 13 (by decide), e125 (24 + 4 * p + 2) (by show (24 : Int) ≤ _; omega)]; exact r6 p p0 p1
  · rw [t1] at i1
    rw [h1 3 (by decide), e121 (36 + i) (by show (36 : Int) ≤ _; omega)]; exact r7.1 i i0 i1
  · rw [t1] at i1
    rw [h1 4 (by decide), e121 (48 + i) (by show (36 : Int) ≤ _; omega)]; exact r7.2.1 i i0 i1
  · rw [t1] at i1
    rw [h1 6 (by decide), e121 (60 + i) (by show (36 : Int) ≤ _; omega)]; exact r7.2.2 i i0 i1
  · rw [t1] at m1
    have hm := r8 m m0 m1
    rw [h1 16 (by decide), h1 17 (by decide), h1 18 (by decide), h1 15 (by decide), e128 (12 + m) (by show (12 : Int) ≤ _; omega), e129 (12 + m) (by show (12 : Int) ≤ _; omega), e130 (12 + m) (by show (12 : Int) ≤ _; omega)]
    obtain ⟨a1, a2, a3, a4, a5, a6, a7, a8⟩ := hm
    refine ⟨a1, a2, a3, a4, a5, fun j j0 j1 => by rw [e126 (1600 + j) (by show (1600 : Int) ≤ _; omega)]; exact a6 j j0 j1, TyR_cg _ _ _ _ (fun j j0 j1 => e126 (1600 + j) (by show (1600 : Int) ≤ _; omega)) a7, TyR_cg _ _ _ _ (fun j j0 j1 => e126 (1600 + j) (by show (1600 : Int) ≤ _; omega)) a8⟩
theorem prc_told {b : Bool} {μ μ' : Nat → Int → Int} (h1 : ∀ k, k ≤ 18 → μ' (tw b + k) = μ (tw b + k)) (h2 : ToldS μ μ') (hR : Rtw b μ) {f : Int → Int} {m p t : Int} (m0 : 0 ≤ m) (m1 : m < μ (tw b + 1) 1) : prc b μ' f m p t = prc b μ f m p t := by
  obtain ⟨a1, a2, a3, a4, a5, a6, a7, a8⟩ := hR.2.2.2.2.2.2.2 m m0 m1
  have e126 := h2 126 (by decide) (by decide) (by decide)
  unfold prc plain valR
  rw [h1 7 (by decide), h1 16 (by decide), h1 17 (by decide), h1 18 (by decide)]
  rw [evR_cg (c' := fun j => μ' 126 (1600 + j)) (c := fun j => μ 126 (1600 + j)) _ _ _ (fun j j0 j1 => e126 (1600 + j) (by show (1600 : Int) ≤ _; omega)), evR_cg (c' := fun j => μ' 126 (1600 + j)) (c := fun j => μ 126 (1600 + j)) _ (μ (tw b + 17) m) _ (fun j j0 j1 => e126 (1600 + j) (by show (1600 : Int) ≤ _; omega))]
def gMen (G : Nat) (M : Int) (men : Int → Int) : Prop := ∀ g, 0 ≤ g → g < (G : Int) → 0 ≤ men g ∧ men g < M
theorem ratP_cg {pr pr' : Int → Int → Int} {fa fb f men : Int → Int} {n : Nat} : ∀ k : Nat, (∀ g p, 0 ≤ g → g < (n : Int) → 0 ≤ p → p < (k : Int) → pr' (men g) p = pr (men g) p) → ratP pr' fa fb n f men k = ratP pr fa fb n f men k
  | 0, _ => rfl
  | k + 1, h => by
    have e : ∀ s t, dst fa fb (fun g => pr' (men g) k) n s t = dst fa fb (fun g => pr (men g) k) n s t := fun s t => dst_congr (fun g g0 g1 => ⟨rfl, rfl, h g k g0 g1 (by omega) (by omega)⟩) s t
    unfold ratP
    rw [e, ratP_cg k (fun g p g0 g1 p0 p1 => h g p g0 g1 p0 (by omega))]
theorem rtM_told {b : Bool} {μ μ' : Nat → Int → Int} (h1 : ∀ k, k ≤ 18 → μ' (tw b + k) = μ (tw b + k)) (h2 : ToldS μ μ') (h74 : μ' 74 = μ 74) (hR : Rtw b μ) {men : Int → Int} (hm : gMen (μ (tw b + 1) 2).toNat (μ (tw b + 1) 1) men) : rtM b μ' men = rtM b μ men := by
  unfold rtM
  rw [h74, h1 14 (by decide), h1 8 (by decide), h1 9 (by decide), h1 1 (by decide)]
  exact ratP_cg _ (fun g p g0 g1 p0 p1 => prc_told h1 h2 hR (hm g g0 g1).1 (hm g g0 g1).2)
theorem gMen_exch {G : Nat} {M : Int} {men : Int → Int} (h : gMen G M men) {i j : Int} (i0 : 0 ≤ i) (i1 : i < (G : Int)) (j0 : 0 ≤ j) (j1 : j < (G : Int)) : gMen G M (exch men i j) := fun g g0 g1 => by
  rw [exch_at]
  by_cases c : g = j
  · rw [if_pos c]; exact h i i0 i1
  · rw [if_neg c]
    by_cases c2 : g = i
    · rw [if_pos c2]; exact h j j0 j1
    · rw [if_neg c2]; exact h g g0 g1
theorem exJ_cg {rt rt' : (Int → Int) → Int × Int} {G : Nat} {M : Int} (hrt : ∀ m, gMen G M m → rt' m = rt m) {men : Int → Int} (h : gMen G M men) {i : Int} (i0 : 0 ≤ i) (i1 : i < (G : Int)) : ∀ (k : Nat) (j : Int) (r : (Int × Int) × (Int × Int)), 0 ≤ j → j + k ≤ (G : Int) → exJ rt' men i k j r = exJ rt men i k j r
  | 0, _, _, _, _ => rfl
  | k + 1, j, r, j0, hk => by
    unfold exJ
    rw [hrt _ (gMen_exch h i0 i1 j0 (by omega))]
    exact exJ_cg hrt h i0 i1 k (j + 1) _ (by omega) (by omega)
theorem exI_cg {rt rt' : (Int → Int) → Int × Int} {G : Nat} {M : Int} (hrt : ∀ m, gMen G M m → rt' m = rt m) {men : Int → Int} (h : gMen G M men) : ∀ (k : Nat) (i : Int) (r : (Int × Int) × (Int × Int)), 0 ≤ i → i + k ≤ (G : Int) → exI rt' men k i r = exI rt men k i r
  | 0, _, _, _, _ => rfl
  | k + 1, i, r, i0, hk => by
    unfold exI
    rw [exJ_cg hrt h i0 (by omega) k (i + 1) r (by omega) (by omega)]
    exact exI_cg hrt h k (i + 1) _ (by omega) (by omega)
theorem exJ_in {rt : (Int → Int) → Int × Int} {G : Nat} {men : Int → Int} {i : Int} (i0 : 0 ≤ i) (i1 : i < (G : Int)) : ∀ (k : Nat) (j : Int) (r : (Int × Int) × (Int × Int)), 0 ≤ j → j + k ≤ (G : Int) → (r.2.1 = -1 ∨ ((0 ≤ r.2.1 ∧ r.2.1 < (G : Int)) ∧ (0 ≤ r.2.2 ∧ r.2.2 < (G : Int)))) → ((exJ rt men i k j r).2.1 = -1 ∨ ((0 ≤ (exJ rt men i k j r).2.1 ∧ (exJ rt men i k j r).2.1 < (G : Int)) ∧ (0 ≤ (exJ rt men i k j r).2.2 ∧ (exJ rt men i k j r).2.2 < (G : Int))))
  | 0, _, _, _, _, h => h
  | k + 1, j, r, j0, hk, h => by
    unfold exJ
    refine exJ_in i0 i1 k (j + 1) _ (by omega) (by omega) ?_
    split
    · exact Or.inr ⟨⟨i0, i1⟩, j0, by show j < (G : Int); omega⟩
    · exact h
theorem exI_in {rt : (Int → Int) → Int × Int} {G : Nat} {men : Int → Int} : ∀ (k : Nat) (i : Int) (r : (Int × Int) × (Int × Int)), 0 ≤ i → i + k ≤ (G : Int) → (r.2.1 = -1 ∨ ((0 ≤ r.2.1 ∧ r.2.1 < (G : Int)) ∧ (0 ≤ r.2.2 ∧ r.2.2 < (G : Int)))) → ((exI rt men k i r).2.1 = -1 ∨ ((0 ≤ (exI rt men k i r).2.1 ∧ (exI rt men k i r).2.1 < (G : Int)) ∧ (0 ≤ (exI rt men k i r).2.2 ∧ (exI rt men k i r).2.2 < (G : Int))))
  | 0, _, _, _, _, h => h
  | k + 1, i, r, i0, hk, h => by
    unfold exI
    exact exI_in k (i + 1) _ (by omega) (by omega) (exJ_in i0 (by omega) k (i + 1) r (by omega) (by omega) h)
theorem exN_cg {rt rt' : (Int → Int) → Int × Int} {G : Nat} {M : Int} (hrt : ∀ m, gMen G M m → rt' m = rt m) : ∀ (k : Nat) (r : Int × Int) (c : Int) (men : Int → Int), gMen G M men → exN rt' G k r c men = exN rt G k r c men
  | 0, _, _, _, _ => rfl
  | k + 1, r, c, men, h => by
    have e := exI_cg hrt h G 0 (r, (-1, -1)) (by decide) (by omega)
    have hin := exI_in (rt := rt) (men := men) (G := G) G 0 (r, (-1, -1)) (by decide) (by omega) (Or.inl rfl)
    unfold exN
    rw [e]
    by_cases q : (exI rt men G 0 (r, (-1, -1))).2.1 = -1
    · rw [if_pos q, if_pos q]
    · rw [if_neg q, if_neg q]
      rcases hin with w | ⟨⟨a1, a2⟩, a3, a4⟩
      · exact absurd w q
      · exact exN_cg hrt k _ _ _ (gMen_exch h a1 a2 a3 a4)
theorem stP_cg {rt rt' : (Int → Int) → Int × Int} {l : List Int} {n : Nat} : ∀ K : Nat, (∀ k, k ≤ K → rt' (ofL (pmD n l k)) = rt (ofL (pmD n l k))) → stP rt' l n K = stP rt l n K
  | 0, h => by unfold stP; rw [h 0 (Nat.le_refl _)]
  | K + 1, h => by
    unfold stP
    rw [h (K + 1) (Nat.le_refl _), stP_cg K (fun k hk => h k (by omega))]
theorem Rsta_told {b : Bool} {μ μ' : Nat → Int → Int} (h1 : ∀ k, k ≤ 18 → μ' (tw b + k) = μ (tw b + k)) (h2 : ToldS μ μ') (h3 : ∀ a, a ∈ [44, 45, 46, 47, 74] → μ' a = μ a) (hR : Rtw b μ) (hn : rowR b μ (μ 74)) (hs : Rsta b μ) : Rsta b μ' := by
  simp only [List.mem_cons, List.not_mem_nil, or_false, forall_eq_or_imp, forall_eq] at h3
  obtain ⟨a44, a45, a46, a47, a74⟩ := h3
  have hrt : ∀ m, gMen (μ (tw b + 1) 2).toNat (μ (tw b + 1) 1) m → rtM b μ' m = rtM b μ m := fun m hm => rtM_told h1 h2 a74 hR hm
  have hc := hR.1.2.2.1
  have hc1 := hR.1.2.1
  have hgm : ∀ g, 0 ≤ g → g < (((μ (tw b + 1) 2).toNat : Nat) : Int) → 0 ≤ μ (tw b + 10) g ∧ μ (tw b + 10) g < μ (tw b + 1) 1 := fun g g0 g1 => (hR.2.1 g g0 (by omega)).2.2.2.2
  have hml := menL_len (gm := μ (tw b + 10)) (n := (μ (tw b + 1) 2).toNat) (fun g g0 g1 => by have := hgm g g0 g1; omega) (fun g h g0 g1 h0 h1' e => hR.2.2.1 g h g0 (by omega) h0 (by omega) e)
  have es : stdR b μ' = stdR b μ := by
    unfold stdR
    rw [h1 10 (by decide), h1 1 (by decide)]
    refine stP_cg _ (fun k hk => hrt _ (fun g g0 g1 => ?_))
    have hk' : k < fct (μ (tw b + 1) 2).toNat := by have := fct_pos (μ (tw b + 1) 2).toNat; omega
    have hlen := pmD_len (μ (tw b + 1) 2).toNat (menL (μ (tw b + 10)) (μ (tw b + 1) 2).toNat) k
    have hmem : ofL (pmD (μ (tw b + 1) 2).toNat (menL (μ (tw b + 10)) (μ (tw b + 1) 2).toNat) k) g ∈ pmD (μ (tw b + 1) 2).toNat (menL (μ (tw b + 10)) (μ (tw b + 1) 2).toNat) k := getD_memP (by rw [hlen]; omega)
    obtain ⟨-, g', x0, x1, x2⟩ := menL_mem (pmD_mem _ _ k hml hk' _ hmem)
    rw [← x2]; exact hgm g' x0 x1
  have ee : exR b μ' = exR b μ := by
    have hrow : gMen (μ (tw b + 1) 2).toNat (μ (tw b + 1) 1) (fun g => μ 74 (2 + g)) := fun g g0 g1 => hn.2.1 g g0 (by omega)
    unfold exR
    rw [a74, h1 1 (by decide), hrt _ hrow]
    exact exN_cg hrt _ _ _ _ hrow
  unfold Rsta at hs ⊢
  rw [a44, a45, a46, a47, es, ee, h1 1 (by decide), h1 10 (by decide)]
  exact hs
