/-! ===== standings: what an order comes to, in the class ===== -/
theorem R_ord {b : Bool} {μ μ' : Nat → Int → Int} (hR : R b μ) (h : Fr (scC ++ [44, 45, 46, 47]) μ μ') (h4 : (μ' 44 = μ 44 ∧ μ' 45 = μ 45) ∨ μ' 44 4 = 0) (h6 : (μ' 46 = μ 46 ∧ μ' 47 = μ 47) ∨ μ' 46 4 = 0) : R b μ' := by
  have ne : ∀ a : Nat, ¬ ((24 ≤ a ∧ a ≤ 29) ∨ (31 ≤ a ∧ a ≤ 43) ∨ (44 ≤ a ∧ a ≤ 49) ∨ a = 75) → μ' a = μ a := fun a ha => h a (fun hm => by
    rcases List.mem_append.1 hm with q | q
    · unfold scC at q
      simp only [List.mem_cons, List.not_mem_nil, or_false] at q; omega
    · simp only [List.mem_cons, List.not_mem_nil, or_false] at q; omega)
  have htw := tw_or b
  have ht : ∀ a, a ∈ twL b → μ' a = μ a := fun a ha => ne a (by have := twL_or ha; omega)
  obtain ⟨r1, r2, r3, r4, r5⟩ := hR
  refine ⟨Rtw_same ht r1, ⟨?_, ?_⟩, Rhis_same ht (ne 50 (by omega)) (fun a a0 a1 => ne a (by omega)) (ne 138 (by omega)) (fun j _ => by rw [ne 96 (by omega)]) r3, Rmsc_same (by rw [ht (tw b + 1) (by simp [twL])]) (fun a ha => ne a ?_) (fun j _ => by rw [ne 96 (by omega)]) (fun a a0 a1 => ne a (by omega)) r4, ?_⟩
  · rw [ne 74 (by omega), ne 133 (by omega)]; exact r2.1
  · rw [ne 74 (by omega)]; exact rowR_same ht r2.2
  · simp only [List.mem_cons, List.not_mem_nil, or_false] at ha; omega
  · have k74 : μ' 74 = μ 74 := ne 74 (by omega)
    unfold Rsta stdR exR at r5 ⊢
    rw [rtM_same ht k74, k74, ht (tw b + 1) (by simp [twL]), ht (tw b + 10) (by simp [twL])]
    obtain ⟨s1, s2, s3, s4⟩ := r5
    refine ⟨?_, ?_, ?_, ?_⟩
    · rcases h4 with ⟨a1, a2⟩ | a1
      · rw [a1]; exact s1
      · exact Or.inl a1
    · rcases h6 with ⟨a1, a2⟩ | a1
      · rw [a1]; exact s2
      · exact Or.inl a1
    · rcases h4 with ⟨a1, a2⟩ | a1
      · rw [a1, a2]; exact s3
      · intro e; omega
    · rcases h6 with ⟨a1, a2⟩ | a1
      · rw [a1, a2]; exact s4
      · intro e; omega
theorem dst_ge {fa fb w : Int → Int} {n : Nat} {s v : Int} (hg : gOk fa fb w n 10) (hs0 : 0 ≤ s) (hs1 : s < 10) (v0 : 0 ≤ v) (v1 : v < 10) : 0 ≤ dst fa fb w n s v := ((dst_dist hg hs0 hs1).2.1 v v0 v1).1
/-- an order's rate up to a person -/
def ratN (b : Bool) (μ : Nat → Int → Int) (men : Int → Int) (k : Nat) : Int × Int := ratP (fun m p => prc b μ (μ 74) m p (μ (tw b + 14) p)) (μ (tw b + 8)) (μ (tw b + 9)) (μ (tw b + 1) 2).toNat (μ 74) men k
theorem ratN_succ (b : Bool) (μ : Nat → Int → Int) (men : Int → Int) (k : Nat) : ratN b μ men (k + 1) = if dstN b μ (fun g => prA b μ (men g) k) (μ 74 (38 + k)) (μ 74 (44 + k)) ≤ μ 74 (50 + k) then ((ratN b μ men k).1 + 1, (ratN b μ men k).2 + dstN b μ (fun g => prA b μ (men g) k) (μ 74 (38 + k)) (μ 74 (44 + k))) else ratN b μ men k := rfl
theorem dstN_ge {b : Bool} {μ : Nat → Int → Int} (hR : R b μ) {men : Int → Int} {k s v : Int} (hs0 : 0 ≤ s) (hs1 : s < 10) (v0 : 0 ≤ v) (v1 : v < 10) : 0 ≤ dstN b μ (fun g => prA b μ (men g) k) s v := dst_ge (Rgat_ok (w := fun g => prA b μ (men g) k) hR.1.1 hR.1.2.1 (fun g _ _ => by have := (prc_in b μ (μ 74) (men g) k (μ (tw b + 14) k)).1; show -1 ≤ prc _ _ _ _ _ _; omega)) hs0 hs1 v0 v1
theorem ratN_in {b : Bool} {μ : Nat → Int → Int} (hR : R b μ) (men : Int → Int) : ∀ k : Nat, (k : Int) ≤ μ (tw b + 1) 3 → (0 ≤ (ratN b μ men k).1 ∧ (ratN b μ men k).1 ≤ k) ∧ (0 ≤ (ratN b μ men k).2 ∧ (ratN b μ men k).2 ≤ 9999 * k)
  | 0, _ => ⟨⟨Int.le_refl _, Int.le_refl _⟩, ⟨Int.le_refl _, Int.le_refl _⟩⟩
  | k + 1, hk => by
    obtain ⟨⟨a0, a1⟩, ⟨b0, b1⟩⟩ := ratN_in hR men k (by omega)
    obtain ⟨-, c1, c2, c3⟩ := (R_refOK hR).2.2.2.2.2.2.2 k (by omega) (by omega)
    have hD := dstN_ge hR (men := men) (k := k) c1.1 c1.2 c2.1 c2.2
    rw [ratN_succ]
    by_cases e : dstN b μ (fun g => prA b μ (men g) k) (μ 74 (38 + k)) (μ 74 (44 + k)) ≤ μ 74 (50 + k)
    · rw [if_pos e]
      exact ⟨⟨by show 0 ≤ (ratN b μ men k).1 + 1; omega, by show (ratN b μ men k).1 + 1 ≤ _; omega⟩, ⟨by show 0 ≤ (ratN b μ men k).2 + _; omega, by show (ratN b μ men k).2 + _ ≤ _; omega⟩⟩
    · rw [if_neg e]; omega
theorem ratN_same {b : Bool} {μ μ' : Nat → Int → Int} (h : ∀ a, a ∈ twL b → μ' a = μ a) (h2 : μ' 74 = μ 74) (men : Int → Int) (k : Nat) : ratN b μ' men k = ratN b μ men k := by
  unfold ratN
  rw [prc_same h, h2, h (tw b + 14) (by simp [twL]), h (tw b + 8) (by simp [twL]), h (tw b + 9) (by simp [twL]), h (tw b + 1) (by simp [twL])]
/-- the rate so far stands in a standing -/
def RtS46 (b : Bool) (μ0 μ : Nat → Int → Int) (k : Nat) : Prop := Fr [27, 28, 46] μ0 μ ∧ (∀ j, j ≠ 1 → j ≠ 2 → μ 46 j = μ0 46 j) ∧ μ 46 1 = (ratN b μ0 (μ0 47) k).1 ∧ μ 46 2 = (ratN b μ0 (μ0 47) k).2
theorem sX3_rate_46 (b : Bool) (μ : Nat → Int → Int) (hR : R b μ) (h46 : μ 46 4 = 0) (hpr : ∀ m p, 0 ≤ m → m < μ (tw b + 1) 1 → 0 ≤ p → p < μ (tw b + 1) 3 → μ (32 + m.toNat) p = prA b μ m p) (hm : ∀ g, 0 ≤ g → g < μ (tw b + 1) 2 → 0 ≤ μ 47 g ∧ μ 47 g < μ (tw b + 1) 1) : ∀ d, 3 ≤ d → Cal d 157 [mP 46, mP (tw b), mP 74, mP 31, mP 26] b μ (fun _ μ' => Fr [27, 28, 46] μ μ' ∧ (∀ j, j ≠ 1 → j ≠ 2 → μ' 46 j = μ 46 j) ∧ μ' 46 1 = (rtM b μ (μ 47)).1 ∧ μ' 46 2 = (rtM b μ (μ 47)).2) := deepC fun d hd => by
  have hCn := hR.1.1
  obtain ⟨⟨z1, z2, z3⟩, ⟨w1, w2, w3⟩, ⟨y1, y2, y3⟩, ⟨x1, x2, x3⟩⟩ := hCn
  have KR : ∀ {μ' : Nat → Int → Int}, Fr [27, 28, 46] μ μ' → (∀ j, j ≠ 1 → j ≠ 2 → μ' 46 j = μ 46 j) → R b μ' := fun {μ'} h hj => R_ord hR (fr_sub h (fun a ha => by
    simp only [List.mem_cons, List.not_mem_nil, or_false] at ha
    rcases ha with e | e | e <;> rw [e] <;> decide)) (Or.inl ⟨h 44 (by decide), h 45 (by decide)⟩) (Or.inr (by rw [hj 4 (by decide) (by decide)]; exact h46))
  have KT : ∀ {μ' : Nat → Int → Int}, Fr [27, 28, 46] μ μ' → ∀ a, a ∈ twL b → μ' a = μ a := fun {μ'} h a ha => h a (by have := twL_or ha; have := tw_or b; simp; omega)
  have hs74 : shp 74 = (0, 62) := rfl
  have lpG : ∀ (k : Nat) (hk : (k : Int) < μ (tw b + 1) 3) (hK : ∀ v6 μ', RtS46 b μ μ' (k + 1) → Ev (fun n => mRun (mCallN d) kX3_rate n 13 [some (mP 46), some (mP (tw b)), some (mP 74), some (mP 31), some (mP 26), some (mI ((k : Int) + 1)), some (mI v6)] [] (SH, μ', RHO b)) b (fun _ μ' => Fr [27, 28, 46] μ μ' ∧ (∀ j, j ≠ 1 → j ≠ 2 → μ' 46 j = μ 46 j) ∧ μ' 46 1 = (rtM b μ (μ 47)).1 ∧ μ' 46 2 = (rtM b μ (μ 47)).2)) (r : Nat) (g : Int) (μ' : Nat → Int → Int), 0 ≤ g → g + r = μ (tw b + 1) 2 → RtS46 b μ μ' k → (∀ h, 0 ≤ h → h < g → μ' 27 h = prA b μ (μ 47 h) k) → Ev (fun n => mRun (mCallN d) kX3_rate n 27 [some (mP 46), some (mP (tw b)), some (mP 74), some (mP 31), some (mP 26), some (mI k), some (mI g)] [] (SH, μ', RHO b)) b (fun _ μ' => Fr [27, 28, 46] μ μ' ∧ (∀ j, j ≠ 1 → j ≠ 2 → μ' 46 j = μ 46 j) ∧ μ' 46 1 = (rtM b μ (μ 47)).1 ∧ μ' 46 2 = (rtM b μ (μ 47)).2) := by
    intro k hk hK r
    induction r with
    | zero =>
      intro g μ' h0 hr hS hW
      obtain ⟨hf, hj, s1, s2⟩ := hS
      have hRm := KR hf hj
      have kt := KT hf
      have k74 : μ' 74 = μ 74 := hf 74 (by decide)
      have k1 := kt (tw b + 1) (by simp [twL])
      have E : ∀ c : Int, 0 ≤ c → c ≤ 50 → w32 (c + (k : Int)) = c + k := fun c c0 c1 => w32_id (by omega) (by omega)
      have E1 : ∀ _ : True, w32 ((k : Int) + 1) = (k : Int) + 1 := fun _ => w32_id (by omega) (by omega)
      obtain ⟨-, c1, c2, c3⟩ := (R_refOK hR).2.2.2.2.2.2.2 k (by omega) hk
      obtain ⟨⟨n0, n1⟩, ⟨o0, o1⟩⟩ := ratN_in hR (μ 47) k (by omega)
      have hD := dstN_ge hR (men := μ 47) (k := k) c1.1 c1.2 c2.1 c2.2
      have hwt : ∀ h, 0 ≤ h → h < μ (tw b + 1) 2 → μ' 27 h = prA b μ (μ 47 h) k := fun h h0 h1 => hW h h0 (by omega)
      have hM := R_meas hRm (μ 74 (38 + k)) (fun h h0 h1 => by
        rw [k1] at h1
        have := prc_in b μ (μ 74) (μ 47 h) k (μ (tw b + 14) k)
        rw [hwt h h0 h1]; show -1 ≤ prc _ _ _ _ _ _ ∧ prc _ _ _ _ _ _ ≤ 100000; omega) c1.1 c1.2 d (by omega)
      have hdd : ∀ v, dstN b μ' (μ' 27) (μ 74 (38 + k)) v = dstN b μ (fun g => prA b μ (μ 47 g) k) (μ 74 (38 + k)) v := fun v => by
        rw [dstN_same kt]; exact dstN_congr hwt _ _
      refine ev_row (fun n => tX3_rate_46_27 _ n b μ' k g 74 b) ?_
      rw [E 38 (by decide) (by decide), E 44 (by decide) (by decide), E 50 (by decide) (by decide), k74]
      refine ev_neg (by rw [k1]; omega) (ev_bif (arr_of hs74) (ev_if (by rw [shape_of hs74]; omega) (ev_callP hM (fun _ μ1 ⟨f1, h1⟩ => ?_))))
      have j74 : μ1 74 = μ 74 := by rw [f1 74 (by decide), k74]
      have hf1 : Fr [27, 28, 46] μ μ1 := fr_tr hf f1 (fun a ha => by
        have : a = 28 := by simpa using ha
        rw [this]; decide)
      have j46 : μ1 46 = μ' 46 := f1 46 (by decide)
      refine ev_bif (arr_of hs74) (ev_if (by rw [shape_of hs74]; omega) (ev_if (by show 0 ≤ μ1 74 (44 + k) ∧ μ1 74 (44 + k) < 10; rw [j74]; exact c2) (ev_bif (arr_of hs74) (ev_if (by rw [shape_of hs74]; omega) (ev_br (fun e => ?_) (fun e => ?_))))))
      · have e' : μ1 74 (50 + k) < μ1 28 (μ1 74 (44 + k)) := e
        rw [j74, h1 _ c2.1 c2.2, hdd] at e'
        refine ev_row (fun n => tX3_rate_46_125 _ n b μ1 k _ 74 b) ?_
        rw [E1 trivial]
        refine hK _ μ1 ⟨hf1, fun j j1 j2 => by rw [j46]; exact hj j j1 j2, ?_, ?_⟩
        · rw [ratN_succ, if_neg (by omega), j46]; exact s1
        · rw [ratN_succ, if_neg (by omega), j46]; exact s2
      · have e' : ¬ μ1 74 (50 + k) < μ1 28 (μ1 74 (44 + k)) := e
        rw [j74, h1 _ c2.1 c2.2, hdd] at e'
        refine ev_row (fun n => tX3_rate_46_125 _ n b _ k _ 74 b) ?_
        rw [E1 trivial]
        refine hK _ _ ⟨fr_m2 (fr_m2 hf1 (by decide)) (by decide), fun j j1 j2 => ?_, ?_, ?_⟩
        · dsimp only
          rw [m2_at, if_neg j2, m2_at, if_neg j1, j46]; exact hj j j1 j2
        · dsimp only
          rw [ratN_succ, if_pos (by omega), m2_at, if_neg (by decide), m2_at, if_pos rfl, j46, s1, w32_id (by omega) (by omega)]
        · dsimp only
          rw [ratN_succ, if_pos (by omega), m2_at, if_pos rfl, m2_at, if_neg (by decide), j46, s2, j74, h1 _ c2.1 c2.2, hdd, w32_id (by omega) (by omega)]
    | succ r ih =>
      intro g μ' h0 hr hS hW
      obtain ⟨hf, hj, s1, s2⟩ := hS
      have kt := KT hf
      have k1 := kt (tw b + 1) (by simp [twL])
      have e5 : w32 (g + 1) = g + 1 := w32_id (by omega) (by omega)
      have k47 : μ' 47 = μ 47 := hf 47 (by decide)
      obtain ⟨m0, m1⟩ := hm g h0 (by omega)
      have hsh := shp_pr (j := (μ 47 g).toNat) (by omega)
      refine ev_row (fun n => tX3_rate_46_27 _ n b μ' k g 74 b) ?_
      rw [e5, k47]
      refine ev_pos (by rw [k1]; omega) (ev_if (by omega) (ev_if (by omega) (ev_opt (rho31 m0 (by omega)) (ev_bif (arr_of hsh) (ev_if (by rw [shape_of hsh]; omega) (ev_if (by omega) ?_))))))
      refine ih (g + 1) _ (by omega) (by omega) ⟨fr_m2 hf (by decide), fun j j1 j2 => ?_, ?_, ?_⟩ (fun h h0' h1 => ?_)
      · rw [m2_ne (by decide)]; exact hj j j1 j2
      · rw [m2_ne (by decide)]; exact s1
      · rw [m2_ne (by decide)]; exact s2
      · rw [m2_at]
        by_cases q : h = g
        · rw [if_pos q, q, hf (32 + (μ 47 g).toNat) (by simp; omega)]
          exact hpr _ k m0 m1 (by omega) hk
        · rw [if_neg q]; exact hW h h0' (by omega)
  have lpP : ∀ (r : Nat) (k : Nat) (v6 : Option mV) (μ' : Nat → Int → Int), (k : Int) + r = μ (tw b + 1) 3 → RtS46 b μ μ' k → Ev (fun n => mRun (mCallN d) kX3_rate n 13 [some (mP 46), some (mP (tw b)), some (mP 74), some (mP 31), some (mP 26), some (mI k), v6] [] (SH, μ', RHO b)) b (fun _ μ' => Fr [27, 28, 46] μ μ' ∧ (∀ j, j ≠ 1 → j ≠ 2 → μ' 46 j = μ 46 j) ∧ μ' 46 1 = (rtM b μ (μ 47)).1 ∧ μ' 46 2 = (rtM b μ (μ 47)).2) := by
    intro r
    induction r with
    | zero =>
      intro k v6 μ' hr hS
      obtain ⟨hf, hj, s1, s2⟩ := hS
      have k1 := KT hf (tw b + 1) (by simp [twL])
      have hk : (μ (tw b + 1) 3).toNat = k := by omega
      refine ev_row (fun n => tX3_rate_46_13 _ n b μ' k v6 74 b) (ev_neg (by rw [k1]; omega) (ev_ret ⟨hf, hj, ?_, ?_⟩))
      · unfold rtM; rw [hk]; exact s1
      · unfold rtM; rw [hk]; exact s2
    | succ r ih =>
      intro k v6 μ' hr hS
      have k1 := KT hS.1 (tw b + 1) (by simp [twL])
      refine ev_row (fun n => tX3_rate_46_13 _ n b μ' k v6 74 b) (ev_pos (by rw [k1]; omega) ?_)
      refine lpG k (by omega) (fun v6' μ2 hS2 => ?_) (μ (tw b + 1) 2).toNat 0 μ' (by decide) (by omega) hS (fun h h0 h1 => absurd h0 (by omega))
      exact ih (k + 1) _ μ2 (by omega) hS2
  refine cal_ev (fun r => call_X3_rate_46 d b μ 74 b) (ev_row (fun n => tX3_rate_46_0 _ n b μ 74 b) ?_)
  refine lpP (μ (tw b + 1) 3).toNat 0 none _ (by omega) ⟨fr_m2 (fr_m2 fr_rfl (by decide)) (by decide), fun j j1 j2 => ?_, ?_, ?_⟩
  · rw [m2_at, if_neg j2, m2_at, if_neg j1]
  · rw [m2_at, if_neg (by decide), m2_at, if_pos rfl]; rfl
  · rw [m2_at, if_pos rfl]; rfl
