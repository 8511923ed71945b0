theorem sX10_image (b : Bool) (f : Int → Int) (μ : Nat → Int → Int) {G M P : Nat} (hG : μ 120 7 = G) (hM : μ 120 5 = M) (hP : μ 120 6 = P) (hG1 : G ≤ 12) (hM1 : M ≤ 12) (hP1 : P ≤ 6) (hrow : Rrow f (μ 133)) (hf : rowI f) : ∀ d, 2 ≤ d → Cal d 57 [mP 96] b μ (fun v μ' => Fg [143] [71] μ μ' ∧ Byt (μ' 143) (μ' 96 71) (imA f G M P) ∧ v = μ' 96 71) := deepC fun d hd => by
  obtain ⟨i0, i1, iG, iM, iP⟩ := hf
  have kn : ∀ {μ' : Nat → Int → Int}, Fg [143] [71] μ μ' → μ' 133 = μ 133 ∧ μ' 120 = μ 120 := fun h => ⟨h.1 133 (by decide) (by decide), h.1 120 (by decide) (by decide)⟩
  have r0 := hrow.1 0 (by decide) (by decide)
  have r1 := hrow.1 1 (by decide) (by decide)
  refine cal_ev (fun r => call_X10_image d b μ) (ev_row (fun m => tX10_image_0 _ m b μ) ?_)
  have f0 : Fg [143] [71] μ (m2 μ 96 71 0) := fg_m96 fg_rfl (by decide)
  have b0 : Byt (m2 μ 96 71 0 143) (m2 μ 96 71 0 96 71) [] := ⟨by rw [m2_at, if_pos rfl]; rfl, fun j hj => absurd hj (by simp), fun x hx => absurd hx List.not_mem_nil⟩
  have pT : Cal d 133 [mP 96, mI (m2 μ 96 71 0 133 0), mI 2] b (m2 μ 96 71 0) (fun _ μ' => Fg [143] [71] (m2 μ 96 71 0) μ' ∧ Byt (μ' 143) (μ' 96 71) ([] ++ [f 0 / 256] ++ [f 0 % 256])) := by
    rw [m2_ne (by decide : (133 : Nat) ≠ 96), r0]
    exact sX10_writes2 (f 0) [] b _ i0.1 i0.2 (by decide) b0 d hd
  refine ev_callP pT (fun _ μ1 ⟨f1, b1⟩ => ?_)
  have f1' := fg_tr f0 f1 (fun a h => h) (fun a h => h)
  have pH : Cal d 133 [mP 96, mI (μ1 133 1), mI 1] b μ1 (fun _ μ' => Fg [143] [71] μ1 μ' ∧ Byt (μ' 143) (μ' 96 71) ([f 0 / 256] ++ [f 0 % 256] ++ [f 1 % 256])) := by
    rw [(kn f1').1, r1]
    exact sX10_writes1 (f 1) ([f 0 / 256] ++ [f 0 % 256]) b μ1 i1.1 (by omega) (by simp) b1 d hd
  refine ev_callP pH (fun _ μ2 ⟨f2, b2⟩ => ?_)
  have f2' := fg_tr f1' f2 (fun a h => h) (fun a h => h)
  have lpP : ∀ (k : Nat) (i : Int) (l : List Int) (μ' : Nat → Int → Int), 0 ≤ i → i + k = P → (l.length : Int) = 3 + G + 3 * M + 6 * i → imP f k i l = imL f G M P → Fg [143] [71] μ μ' → Byt (μ' 143) (μ' 96 71) l → Ev (fun m => mRun (mCallN d) kX10_image m 99 [some (mP 96), some (mI i)] [] (SH, μ', RHO b)) b (fun v μ' => Fg [143] [71] μ μ' ∧ Byt (μ' 143) (μ' 96 71) (imA f G M P) ∧ v = μ' 96 71) := by
    intro k
    induction k with
    | zero =>
      intro i l μ' h0 hk hl he hfr hb
      rw [imP] at he
      have hlen' : μ' 96 71 = ((l.length : Nat) : Int) := hb.1
      have hS : mCallN d 21 [mP 143, mI (μ' 96 71)] (SH, μ', RHO b) = some (chkF (μ' 143) l.length 0 157, SH, μ', RHO b) := by
        rw [hlen']
        exact sX10_checked 143 100 l.length b μ' rfl (by decide) (by omega) (fun j j0 j1 => by
          have h := hb.2.1 j.toNat (by omega)
          rw [show ((j.toNat : Nat) : Int) = j by omega] at h
          rw [h, List.getD_eq_getElem?_getD, List.getElem?_eq_getElem (by omega)]
          exact hb.2.2 _ (List.getElem_mem _)) d (by omega)
      have hc : chkF (μ' 143) l.length 0 157 = chkF (fun i => (imL f G M P).getD i.toNat 0) (imL f G M P).length 0 157 := by
        rw [← he]
        exact chkF_congr _ _ _ (fun j j0 j1 => by
          have h := hb.2.1 j.toNat (by omega)
          rw [show ((j.toNat : Nat) : Int) = j by omega] at h
          exact h)
      have hci := chkF_in (f := μ' 143) l.length 0 157 (by decide) (by decide)
      refine ev_row (fun m => tX10_image_99 _ m b μ' i) (ev_call (sX10_personMany b μ' d (by omega)) (ev_neg (by show ¬ (i < μ' 120 6); rw [(kn hfr).2]; omega) (ev_call hS (ev_callP (sX10_writes1 (chkF (μ' 143) l.length 0 157) l b μ' hci.1 (by omega) (by omega) hb d (by omega)) (fun _ μ3 ⟨f3, b3⟩ => ev_ret ⟨fg_tr hfr f3 (fun a h => h) (fun a h => h), ?_, rfl⟩)))))
      show Byt (μ3 143) (μ3 96 71) _
      unfold imA
      rw [← hc, ← he]; exact b3
    | succ k ih =>
      intro i l μ' h0 hk hl he hfr hb
      obtain ⟨q1, q2, q3, q4⟩ := iP i h0 (by omega)
      obtain ⟨s0, s1, s2, s3⟩ := hrow.2 i h0 (by omega)
      have e5 : w32 (i + 1) = i + 1 := w32_id (by omega) (by omega)
      have pO : ∀ (μ'' : Nat → Int → Int) (j : Int), Fg [143] [71] μ μ'' → 0 ≤ j → j < 4 → mCallN d 103 [mP 96, mI i, mI j] (SH, μ'', RHO b) = some (μ 133 (38 + 4 * i + j), SH, μ'', RHO b) := fun μ'' j h j0 j1 => by
        have := sX10_personOf i j b μ'' h0 (by omega) j0 j1 d (by omega)
        rw [(kn h).1] at this; exact this
      have p0 := pO μ' 0 hfr (by decide) (by decide)
      rw [s0] at p0
      refine ev_row (fun m => tX10_image_99 _ m b μ' i) (ev_call (sX10_personMany b μ' d (by omega)) (ev_pos (by show i < μ' 120 6; rw [(kn hfr).2]; omega) (ev_call p0 (ev_callP (sX10_writes1 (f (38 + i)) l b μ' q1.1 (by omega) (by omega) hb d (by omega)) (fun _ μ3 ⟨f3, b3⟩ => ?_)))))
      have f3' := fg_tr hfr f3 (fun a h => h) (fun a h => h)
      have p1 := pO μ3 1 f3' (by decide) (by decide)
      rw [s1] at p1
      refine ev_call p1 (ev_callP (sX10_writes1 (f (44 + i)) _ b μ3 q2.1 (by omega) (by rw [len_app1]; omega) b3 d (by omega)) (fun _ μ4 ⟨f4, b4⟩ => ?_))
      have f4' := fg_tr f3' f4 (fun a h => h) (fun a h => h)
      have p2 := pO μ4 2 f4' (by decide) (by decide)
      rw [s2] at p2
      refine ev_call p2 (ev_callP (sX10_writes2 (f (50 + i)) _ b μ4 q3.1 (by omega) (by rw [len_app1, len_app1]; omega) b4 d (by omega)) (fun _ μ5 ⟨f5, b5⟩ => ?_))
      have f5' := fg_tr f4' f5 (fun a h => h) (fun a h => h)
      have p3 := pO μ5 3 f5' (by decide) (by decide)
      rw [s3] at p3
      refine ev_call p3 (ev_callP (sX10_writes2 (f (56 + i)) _ b μ5 q4.1 (by omega) (by rw [len_app1, len_app1, len_app1, len_app1]; omega) b5 d (by omega)) (fun _ μ6 ⟨f6, b6⟩ => ?_))
      dsimp only
      rw [e5]
      refine ih (i + 1) _ μ6 (by omega) (by omega) ?_ (by rw [imP] at he; exact he) (fg_tr f5' f6 (fun a h => h) (fun a h => h)) b6
      rw [len_app1, len_app1, len_app1, len_app1, len_app1, len_app1]; omega
  have lpM : ∀ (k : Nat) (i : Int) (l : List Int) (μ' : Nat → Int → Int), 0 ≤ i → i + k = M → (l.length : Int) = 3 + G + 3 * i → imP f P 0 (imM f k i l) = imL f G M P → Fg [143] [71] μ μ' → Byt (μ' 143) (μ' 96 71) l → Ev (fun m => mRun (mCallN d) kX10_image m 55 [some (mP 96), some (mI i)] [] (SH, μ', RHO b)) b (fun v μ' => Fg [143] [71] μ μ' ∧ Byt (μ' 143) (μ' 96 71) (imA f G M P) ∧ v = μ' 96 71) := by
    intro k
    induction k with
    | zero =>
      intro i l μ' h0 hk hl he hfr hb
      refine ev_row (fun m => tX10_image_55 _ m b μ' i) (ev_call (sX10_manMany b μ' d (by omega)) (ev_neg (by show ¬ (i < μ' 120 5); rw [(kn hfr).2]; omega) ?_))
      exact lpP P 0 l μ' (by decide) (by omega) (by omega) he hfr hb
    | succ k ih =>
      intro i l μ' h0 hk hl he hfr hb
      obtain ⟨q1, q2⟩ := iM i h0 (by omega)
      have e1 : w32 (14 + i) = 14 + i := w32_id (by omega) (by omega)
      have e2 : w32 (26 + i) = 26 + i := w32_id (by omega) (by omega)
      have e5 : w32 (i + 1) = i + 1 := w32_id (by omega) (by omega)
      have c1 : Cal d 133 [mP 96, mI (μ' 133 (14 + i)), mI 1] b μ' (fun _ μ'' => Fg [143] [71] μ' μ'' ∧ Byt (μ'' 143) (μ'' 96 71) (l ++ [f (14 + i) % 256])) := by
        rw [(kn hfr).1, hrow.1 (14 + i) (by omega) (by omega)]
        exact sX10_writes1 (f (14 + i)) l b μ' q1.1 (by omega) (by omega) hb d (by omega)
      refine ev_row (fun m => tX10_image_55 _ m b μ' i) (ev_call (sX10_manMany b μ' d (by omega)) (ev_pos (by show i < μ' 120 5; rw [(kn hfr).2]; omega) ?_))
      dsimp only
      rw [e1, e2, e5]
      refine ev_if (by omega) (ev_callP c1 (fun _ μ3 ⟨f3, b3⟩ => ?_))
      have f3' := fg_tr hfr f3 (fun a h => h) (fun a h => h)
      have c2 : Cal d 133 [mP 96, mI (μ3 133 (26 + i)), mI 2] b μ3 (fun _ μ'' => Fg [143] [71] μ3 μ'' ∧ Byt (μ'' 143) (μ'' 96 71) (l ++ [f (14 + i) % 256] ++ [f (26 + i) / 256] ++ [f (26 + i) % 256])) := by
        rw [(kn f3').1, hrow.1 (26 + i) (by omega) (by omega)]
        exact sX10_writes2 (f (26 + i)) _ b μ3 q2.1 (by omega) (by rw [len_app1]; omega) b3 d (by omega)
      refine ev_if (by omega) (ev_callP c2 (fun _ μ4 ⟨f4, b4⟩ => ?_))
      refine ih (i + 1) _ μ4 (by omega) (by omega) ?_ (by rw [imM] at he; exact he) (fg_tr f3' f4 (fun a h => h) (fun a h => h)) b4
      rw [len_app1, len_app1, len_app1]; omega
  have lpG : ∀ (k : Nat) (i : Int) (l : List Int) (μ' : Nat → Int → Int), 0 ≤ i → i + k = G → (l.length : Int) = 3 + i → imP f P 0 (imM f M 0 (imG f k i l)) = imL f G M P → Fg [143] [71] μ μ' → Byt (μ' 143) (μ' 96 71) l → Ev (fun m => mRun (mCallN d) kX10_image m 29 [some (mP 96), some (mI i)] [] (SH, μ', RHO b)) b (fun v μ' => Fg [143] [71] μ μ' ∧ Byt (μ' 143) (μ' 96 71) (imA f G M P) ∧ v = μ' 96 71) := by
    intro k
    induction k with
    | zero =>
      intro i l μ' h0 hk hl he hfr hb
      refine ev_row (fun m => tX10_image_29 _ m b μ' i) (ev_call (sX10_gateMany b μ' d (by omega)) (ev_neg (by show ¬ (i < μ' 120 7); rw [(kn hfr).2]; omega) ?_))
      exact lpM M 0 l μ' (by decide) (by omega) (by omega) he hfr hb
    | succ k ih =>
      intro i l μ' h0 hk hl he hfr hb
      have q1 := iG i h0 (by omega)
      have e5 : w32 (i + 1) = i + 1 := w32_id (by omega) (by omega)
      have pM := sX10_manAt i b μ' h0 (by omega) d (by omega)
      rw [(kn hfr).1, hrow.1 (2 + i) (by omega) (by omega)] at pM
      refine ev_row (fun m => tX10_image_29 _ m b μ' i) (ev_call (sX10_gateMany b μ' d (by omega)) (ev_pos (by show i < μ' 120 7; rw [(kn hfr).2]; omega) (ev_call pM (ev_callP (sX10_writes1 (f (2 + i)) l b μ' q1.1 (by omega) (by omega) hb d (by omega)) (fun _ μ3 ⟨f3, b3⟩ => ?_)))))
      dsimp only
      rw [e5]
      refine ih (i + 1) _ μ3 (by omega) (by omega) ?_ (by rw [imG] at he; exact he) (fg_tr hfr f3 (fun a h => h) (fun a h => h)) b3
      rw [len_app1]; omega
  exact lpG G 0 _ μ2 (by decide) (by omega) (by simp) rfl f2' b2
theorem p_image {b : Bool} {μ : Nat → Int → Int} (hR : R b μ) : ∀ d, 4 ≤ d → PairA d b μ 232 57 [] := deep fun d hd => by
  have hC := Rcnt_C hR.1.1
  obtain ⟨⟨z1, z2, z3⟩, ⟨w1, w2, w3⟩, ⟨y1, y2, y3⟩, ⟨x1, x2, x3⟩⟩ := hR.1.1
  have hA : Cal (d + 1) 232 [mP 0] b μ (fun v μ' => Fr [72, 73] μ μ' ∧ Byt (μ' 73) (μ' 72 1) (imA (μ 74) (μ (tw b + 1) 2).toNat (μ (tw b + 1) 1).toNat (μ (tw b + 1) 3).toNat) ∧ v = μ' 72 1) := by
    refine cal_ev (fun r => call_X9_image d b μ) (ev_row (fun m => tX9_image_0 _ m b μ) ?_)
    exact ev_callP (sX1_write b μ (by omega) (by omega) (by omega) (by omega) (by omega) (by omega) (R_rowI hR) d (by omega)) (fun _ μ1 ⟨f1, b1⟩ => ev_ret ⟨f1, b1, rfl⟩)
  obtain ⟨v, μ1, g1, g2, g3, g4⟩ := hA
  have kr : ∀ a, a ≠ 72 → a ≠ 73 → μ1 a = μ a := fun a a1 a2 => g2 a (by simp [a1, a2])
  obtain ⟨v', μ2, h1, h2, h3, h4⟩ := sX10_image b (μ 74) μ1 (G := (μ (tw b + 1) 2).toNat) (M := (μ (tw b + 1) 1).toNat) (P := (μ (tw b + 1) 3).toNat) (by rw [kr 120 (by decide) (by decide)]; omega) (by rw [kr 120 (by decide) (by decide)]; omega) (by rw [kr 120 (by decide) (by decide)]; omega) (by omega) (by omega) (by omega) (by rw [kr 133 (by decide) (by decide)]; exact hR.2.1.1) (R_rowI hR) (d + 1) (by omega)
  have hv : v' = v := by rw [h4, g4, h3.1, g3.1]
  rw [hv] at h1
  have kk : ∀ a, a ≠ 72 → a ≠ 73 → a ≠ 143 → a ≠ 96 → μ2 a = μ a := fun a a1 a2 a3 a4 => by rw [h2.1 a (by simpa using a3) a4, kr a a1 a2]
  have ht : ∀ a, a ∈ twL b → μ2 a = μ a := fun a ha => by
    have := twL_or ha
    have := tw_or b
    exact kk a (by omega) (by omega) (by omega) (by omega)
  have k96 : ∀ j, j ≠ 71 → μ2 96 j = μ 96 j := fun j hj => by rw [h2.2 j (by simpa using hj), kr 96 (by decide) (by decide)]
  have k72 : μ2 72 = μ1 72 := h2.1 72 (by decide) (by decide)
  have k73 : μ2 73 = μ1 73 := h2.1 73 (by decide) (by decide)
  have hlen : (imA (μ 74) (μ (tw b + 1) 2).toNat (μ (tw b + 1) 1).toNat (μ (tw b + 1) 3).toNat).length ≤ 88 := by
    unfold imA imL
    rw [len_app1, imP_len, imM_len, imG_len]
    simp only [List.length_append, List.length_singleton]
    omega
  obtain ⟨m1, m2', m3, m4, m5, m6⟩ := hR.2.2.2.1
  refine ⟨v, μ1, μ2, g1, h1, R_msc hR ht (fun a ha => ?_) (fun a a0 a1 => kk a (by omega) (by omega) (by omega) (by omega)) (fun j hj => ?_) ⟨?_, ?_, ?_, ?_, ⟨⟨?_, ?_⟩, fun i i0 i1 => ?_⟩, ?_⟩⟩
  · simp only [List.mem_cons, List.not_mem_nil, or_false] at ha
    exact kk a (by omega) (by omega) (by omega) (by omega)
  · simp only [List.mem_cons, List.not_mem_nil, or_false] at hj
    exact k96 j (by omega)
  · unfold Rtap at m1 ⊢
    rw [kk 2 (by decide) (by decide) (by decide) (by decide), kk 3 (by decide) (by decide) (by decide) (by decide), kk 97 (by decide) (by decide) (by decide) (by decide), k96 1 (by decide)]; exact m1
  · rw [kk 1 (by decide) (by decide) (by decide) (by decide), k96 7 (by decide), k96 8 (by decide)]; exact m2'
  · unfold Rsee at m3 ⊢
    rw [kk 0 (by decide) (by decide) (by decide) (by decide), kk 76 (by decide) (by decide) (by decide) (by decide), kk 141 (by decide) (by decide) (by decide) (by decide), k96 67 (by decide), ht (tw b + 1) (by simp [twL])]; exact m3
  · rw [kk 0 (by decide) (by decide) (by decide) (by decide), k96 60 (by decide)]; exact m4
  · rw [h3.1, k72, g3.1]
  · rw [k72, g3.1]; omega
  · rw [k72, g3.1] at i1
    have a1 := h3.2.1 i.toNat (by omega)
    have a2 := g3.2.1 i.toNat (by omega)
    rw [show ((i.toNat : Nat) : Int) = i by omega] at a1 a2
    rw [k73, a1, a2]
  · intro j hj i hi
    rw [kk (98 + j) (by omega) (by omega) (by omega) (by omega)]; exact m6 j hj i hi
