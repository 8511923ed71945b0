/-! ===== the reference: is an own word here ===== -/
theorem tkW_22 {T : Int → Int} {n s : Int} {g : Bool} (h : ∀ j : Nat, j < 22 → tkW T n s g ≠ (j : Int)) : ¬ 0 ≤ tkW T n s g := fun q => by
  have hlt : tkW T n s g < 22 := by
    unfold tkW
    by_cases c : tkK T n s g = 1
    · rw [if_pos c]
      rcases owN_or T n s with ⟨w, -⟩ | ⟨i, hi, w, -⟩ <;> omega
    · rw [if_neg c]; omega
  exact h (tkW T n s g).toNat (by omega) (by omega)
theorem sX10_isOwnHere {T : Int → Int} {n s : Int} {g : Bool} (hT : Tp T n) (b : Bool) (ν : Nat → Int → Int) (h : RSv T n ν s g) : ∀ d, 3 ≤ d → Cal d 71 [mP 96] b ν (fun v ν' => v = t01 (0 ≤ tkW T n s g) ∧ Fg [] [2] ν ν' ∧ RSv T n ν' s g ∧ ν' 96 2 = s) := deepC fun d hd => by
  have fin : ∀ (ν' : Nat → Int → Int) (v1 c : Int), (c = 0 ∨ c = 1) → c = t01 (0 ≤ tkW T n s g) → Fg [] [2] ν ν' → RSv T n ν' s g → ν' 96 2 = s → Ev (fun m => mRun (mCallN d) kX10_isOwnHere m 277 [some (mP 96), some (mI v1)] [mI c] (SH, ν', RHO b)) b (fun v ν' => v = t01 (0 ≤ tkW T n s g) ∧ Fg [] [2] ν ν' ∧ RSv T n ν' s g ∧ ν' 96 2 = s) := fun ν' v1 c hc hv f l a => ev_row (fun m => tX10_isOwnHere_277 _ m b ν' v1 c) (ev_if hc (ev_ret ⟨hv, f, l, a⟩))
  have y223 : ∀ (ν' : Nat → Int → Int) (v1 : Int), 0 ≤ tkW T n s g → Fg [] [2] ν ν' → RSv T n ν' s g → ν' 96 2 = s → Ev (fun m => mRun (mCallN d) kX10_isOwnHere m 223 [some (mP 96), some (mI v1)] [mI 1] (SH, ν', RHO b)) b (fun v ν' => v = t01 (0 ≤ tkW T n s g) ∧ Fg [] [2] ν ν' ∧ RSv T n ν' s g ∧ ν' 96 2 = s) := fun ν' v1 hv f l a => ev_row (fun m => tX10_isOwnHere_223 _ m b ν' v1 1) (ev_neg (by decide) (ev_row (fun m => tX10_isOwnHere_272 _ m b ν' 1) (fin ν' 1 1 (Or.inr rfl) (t01_pos hv).symm f l a)))
  have y147 : ∀ (ν' : Nat → Int → Int) (v1 : Int), 0 ≤ tkW T n s g → Fg [] [2] ν ν' → RSv T n ν' s g → ν' 96 2 = s → Ev (fun m => mRun (mCallN d) kX10_isOwnHere m 147 [some (mP 96), some (mI v1)] [mI 1] (SH, ν', RHO b)) b (fun v ν' => v = t01 (0 ≤ tkW T n s g) ∧ Fg [] [2] ν ν' ∧ RSv T n ν' s g ∧ ν' 96 2 = s) := fun ν' v1 hv f l a => ev_row (fun m => tX10_isOwnHere_147 _ m b ν' v1 1) (ev_neg (by decide) (ev_row (fun m => tX10_isOwnHere_218 _ m b ν' 1) (y223 ν' 1 hv f l a)))
  have y71 : ∀ (ν' : Nat → Int → Int), 0 ≤ tkW T n s g → Fg [] [2] ν ν' → RSv T n ν' s g → ν' 96 2 = s → Ev (fun m => mRun (mCallN d) kX10_isOwnHere m 71 [some (mP 96), none] [mI 1] (SH, ν', RHO b)) b (fun v ν' => v = t01 (0 ≤ tkW T n s g) ∧ Fg [] [2] ν ν' ∧ RSv T n ν' s g ∧ ν' 96 2 = s) := fun ν' hv f l a => ev_row (fun m => tX10_isOwnHere_71 _ m b ν' 1) (ev_neg (by decide) (ev_row (fun m => tX10_isOwnHere_142 _ m b ν' 1) (y147 ν' 1 hv f l a)))
  have no : ∀ (v : Int) (j : Nat), v = t01 (tkW T n s g = (j : Int)) → v = 0 → tkW T n s g ≠ (j : Int) := fun v j h1 h2 q => by rw [t01_pos q] at h1; omega
  have ye : ∀ (v : Int) (j : Nat), v = t01 (tkW T n s g = (j : Int)) → ¬ v = 0 → 0 ≤ tkW T n s g := fun v j h1 h2 => by
    by_cases q : tkW T n s g = (j : Int)
    · omega
    · rw [t01_neg q] at h1; exact absurd h1 h2
  refine cal_ev (fun r => call_X10_isOwnHere d b ν) (ev_row (fun m => tX10_isOwnHere_0 _ m b ν) ?_)
  refine ev_callP (sX10_isHere hT (j := 0) (by decide) b ν h d hd) (fun v1 ν1 ⟨e1, f1, l1, a1⟩ => ev_br (fun c1 => ?_) (fun c1 => ?_))
  rotate_left
  · have F : Fg [] [2] ν ν1 := f1
    exact ev_row (fun m => tX10_isOwnHere_66 _ m b ν1) (y71 ν1 (ye v1 0 e1 c1) F l1 a1)
  have g1 : Fg [] [2] ν ν1 := f1
  have n1 := no v1 0 e1 c1
  refine ev_callP (sX10_isHere hT (j := 1) (by decide) b ν1 l1 d hd) (fun v2 ν2 ⟨e2, f2, l2, a2⟩ => ev_br (fun c2 => ?_) (fun c2 => ?_))
  rotate_left
  · have F : Fg [] [2] ν ν2 := (fg_tr g1 f2 (fun a ha => ha) (fun a ha => ha))
    exact ev_row (fun m => tX10_isOwnHere_66 _ m b ν2) (y71 ν2 (ye v2 1 e2 c2) F l2 a2)
  have g2 : Fg [] [2] ν ν2 := (fg_tr g1 f2 (fun a ha => ha) (fun a ha => ha))
  have n2 := no v2 1 e2 c2
  refine ev_callP (sX10_isHere hT (j := 2) (by decide) b ν2 l2 d hd) (fun v3 ν3 ⟨e3, f3, l3, a3⟩ => ev_br (fun c3 => ?_) (fun c3 => ?_))
  rotate_left
  · have F : Fg [] [2] ν ν3 := (fg_tr g2 f3 (fun a ha => ha) (fun a ha => ha))
    exact ev_row (fun m => tX10_isOwnHere_66 _ m b ν3) (y71 ν3 (ye v3 2 e3 c3) F l3 a3)
  have g3 : Fg [] [2] ν ν3 := (fg_tr g2 f3 (fun a ha => ha) (fun a ha => ha))
  have n3 := no v3 2 e3 c3
  refine ev_callP (sX10_isHere hT (j := 3) (by decide) b ν3 l3 d hd) (fun v4 ν4 ⟨e4, f4, l4, a4⟩ => ev_br (fun c4 => ?_) (fun c4 => ?_))
  rotate_left
  · have F : Fg [] [2] ν ν4 := (fg_tr g3 f4 (fun a ha => ha) (fun a ha => ha))
    exact ev_row (fun m => tX10_isOwnHere_66 _ m b ν4) (y71 ν4 (ye v4 3 e4 c4) F l4 a4)
  have g4 : Fg [] [2] ν ν4 := (fg_tr g3 f4 (fun a ha => ha) (fun a ha => ha))
  have n4 := no v4 3 e4 c4
  refine ev_callP (sX10_isHere hT (j := 4) (by decide) b ν4 l4 d hd) (fun v5 ν5 ⟨e5, f5, l5, a5⟩ => ev_br (fun c5 => ?_) (fun c5 => ?_))
  rotate_left
  · have F : Fg [] [2] ν ν5 := (fg_tr g4 f5 (fun a ha => ha) (fun a ha => ha))
    exact ev_row (fun m => tX10_isOwnHere_66 _ m b ν5) (y71 ν5 (ye v5 4 e5 c5) F l5 a5)
  have g5 : Fg [] [2] ν ν5 := (fg_tr g4 f5 (fun a ha => ha) (fun a ha => ha))
  have n5 := no v5 4 e5 c5
  refine ev_callP (sX10_isHere hT (j := 5) (by decide) b ν5 l5 d hd) (fun v6 ν6 ⟨e6, f6, l6, a6⟩ => ev_br (fun c6 => ?_) (fun c6 => ?_))
  rotate_left
  · have F : Fg [] [2] ν ν6 := (fg_tr g5 f6 (fun a ha => ha) (fun a ha => ha))
    exact ev_row (fun m => tX10_isOwnHere_66 _ m b ν6) (y71 ν6 (ye v6 5 e6 c6) F l6 a6)
  have g6 : Fg [] [2] ν ν6 := (fg_tr g5 f6 (fun a ha => ha) (fun a ha => ha))
  have n6 := no v6 5 e6 c6
  refine ev_row (fun m => tX10_isOwnHere_71 _ m b ν6 0) (ev_pos rfl ?_)
  refine ev_callP (sX10_isHere hT (j := 6) (by decide) b ν6 l6 d hd) (fun v7 ν7 ⟨e7, f7, l7, a7⟩ => ev_br (fun c7 => ?_) (fun c7 => ?_))
  rotate_left
  · have F : Fg [] [2] ν ν7 := (fg_tr g6 f7 (fun a ha => ha) (fun a ha => ha))
    exact ev_row (fun m => tX10_isOwnHere_142 _ m b ν7 0) (y147 ν7 0 (ye v7 6 e7 c7) F l7 a7)
  have g7 : Fg [] [2] ν ν7 := (fg_tr g6 f7 (fun a ha => ha) (fun a ha => ha))
  have n7 := no v7 6 e7 c7
  refine ev_callP (sX10_isHere hT (j := 7) (by decide) b ν7 l7 d hd) (fun v8 ν8 ⟨e8, f8, l8, a8⟩ => ev_br (fun c8 => ?_) (fun c8 => ?_))
  rotate_left
  · have F : Fg [] [2] ν ν8 := (fg_tr g7 f8 (fun a ha => ha) (fun a ha => ha))
    exact ev_row (fun m => tX10_isOwnHere_142 _ m b ν8 0) (y147 ν8 0 (ye v8 7 e8 c8) F l8 a8)
  have g8 : Fg [] [2] ν ν8 := (fg_tr g7 f8 (fun a ha => ha) (fun a ha => ha))
  have n8 := no v8 7 e8 c8
  refine ev_callP (sX10_isHere hT (j := 8) (by decide) b ν8 l8 d hd) (fun v9 ν9 ⟨e9, f9, l9, a9⟩ => ev_br (fun c9 => ?_) (fun c9 => ?_))
  rotate_left
  · have F : Fg [] [2] ν ν9 := (fg_tr g8 f9 (fun a ha => ha) (fun a ha => ha))
    exact ev_row (fun m => tX10_isOwnHere_142 _ m b ν9 0) (y147 ν9 0 (ye v9 8 e9 c9) F l9 a9)
  have g9 : Fg [] [2] ν ν9 := (fg_tr g8 f9 (fun a ha => ha) (fun a ha => ha))
  have n9 := no v9 8 e9 c9
  refine ev_callP (sX10_isHere hT (j := 9) (by decide) b ν9 l9 d hd) (fun v10 ν10 ⟨e10, f10, l10, a10⟩ => ev_br (fun c10 => ?_) (fun c10 => ?_))
  rotate_left
  · have F : Fg [] [2] ν ν10 := (fg_tr g9 f10 (fun a ha => ha) (fun a ha => ha))
    exact ev_row (fun m => tX10_isOwnHere_142 _ m b ν10 0) (y147 ν10 0 (ye v10 9 e10 c10) F l10 a10)
  have g10 : Fg [] [2] ν ν10 := (fg_tr g9 f10 (fun a ha => ha) (fun a ha => ha))
  have n10 := no v10 9 e10 c10
  refine ev_callP (sX10_isHere hT (j := 10) (by decide) b ν10 l10 d hd) (fun v11 ν11 ⟨e11, f11, l11, a11⟩ => ev_br (fun c11 => ?_) (fun c11 => ?_))
  rotate_left
  · have F : Fg [] [2] ν ν11 := (fg_tr g10 f11 (fun a ha => ha) (fun a ha => ha))
    exact ev_row (fun m => tX10_isOwnHere_142 _ m b ν11 0) (y147 ν11 0 (ye v11 10 e11 c11) F l11 a11)
  have g11 : Fg [] [2] ν ν11 := (fg_tr g10 f11 (fun a ha => ha) (fun a ha => ha))
  have n11 := no v11 10 e11 c11
  refine ev_callP (sX10_isHere hT (j := 11) (by decide) b ν11 l11 d hd) (fun v12 ν12 ⟨e12, f12, l12, a12⟩ => ev_br (fun c12 => ?_) (fun c12 => ?_))
  rotate_left
  · have F : Fg [] [2] ν ν12 := (fg_tr g11 f12 (fun a ha => ha) (fun a ha => ha))
    exact ev_row (fun m => tX10_isOwnHere_142 _ m b ν12 0) (y147 ν12 0 (ye v12 11 e12 c12) F l12 a12)
  have g12 : Fg [] [2] ν ν12 := (fg_tr g11 f12 (fun a ha => ha) (fun a ha => ha))
  have n12 := no v12 11 e12 c12
  refine ev_row (fun m => tX10_isOwnHere_147 _ m b ν12 0 0) (ev_pos rfl ?_)
  refine ev_callP (sX10_isHere hT (j := 12) (by decide) b ν12 l12 d hd) (fun v13 ν13 ⟨e13, f13, l13, a13⟩ => ev_br (fun c13 => ?_) (fun c13 => ?_))
  rotate_left
  · have F : Fg [] [2] ν ν13 := (fg_tr g12 f13 (fun a ha => ha) (fun a ha => ha))
    exact ev_row (fun m => tX10_isOwnHere_218 _ m b ν13 0) (y223 ν13 0 (ye v13 12 e13 c13) F l13 a13)
  have g13 : Fg [] [2] ν ν13 := (fg_tr g12 f13 (fun a ha => ha) (fun a ha => ha))
  have n13 := no v13 12 e13 c13
  refine ev_callP (sX10_isHere hT (j := 13) (by decide) b ν13 l13 d hd) (fun v14 ν14 ⟨e14, f14, l14, a14⟩ => ev_br (fun c14 => ?_) (fun c14 => ?_))
  rotate_left
  · have F : Fg [] [2] ν ν14 := (fg_tr g13 f14 (fun a ha => ha) (fun a ha => ha))
    exact ev_row (fun m => tX10_isOwnHere_218 _ m b ν14 0) (y223 ν14 0 (ye v14 13 e14 c14) F l14 a14)
  have g14 : Fg [] [2] ν ν14 := (fg_tr g13 f14 (fun a ha => ha) (fun a ha => ha))
  have n14 := no v14 13 e14 c14
  refine ev_callP (sX10_isHere hT (j := 14) (by decide) b ν14 l14 d hd) (fun v15 ν15 ⟨e15, f15, l15, a15⟩ => ev_br (fun c15 => ?_) (fun c15 => ?_))
  rotate_left
  · have F : Fg [] [2] ν ν15 := (fg_tr g14 f15 (fun a ha => ha) (fun a ha => ha))
    exact ev_row (fun m => tX10_isOwnHere_218 _ m b ν15 0) (y223 ν15 0 (ye v15 14 e15 c15) F l15 a15)
  have g15 : Fg [] [2] ν ν15 := (fg_tr g14 f15 (fun a ha => ha) (fun a ha => ha))
  have n15 := no v15 14 e15 c15
  refine ev_callP (sX10_isHere hT (j := 15) (by decide) b ν15 l15 d hd) (fun v16 ν16 ⟨e16, f16, l16, a16⟩ => ev_br (fun c16 => ?_) (fun c16 => ?_))
  rotate_left
  · have F : Fg [] [2] ν ν16 := (fg_tr g15 f16 (fun a ha => ha) (fun a ha => ha))
    exact ev_row (fun m => tX10_isOwnHere_218 _ m b ν16 0) (y223 ν16 0 (ye v16 15 e16 c16) F l16 a16)
  have g16 : Fg [] [2] ν ν16 := (fg_tr g15 f16 (fun a ha => ha) (fun a ha => ha))
  have n16 := no v16 15 e16 c16
  refine ev_callP (sX10_isHere hT (j := 16) (by decide) b ν16 l16 d hd) (fun v17 ν17 ⟨e17, f17, l17, a17⟩ => ev_br (fun c17 => ?_) (fun c17 => ?_))
  rotate_left
  · have F : Fg [] [2] ν ν17 := (fg_tr g16 f17 (fun a ha => ha) (fun a ha => ha))
    exact ev_row (fun m => tX10_isOwnHere_218 _ m b ν17 0) (y223 ν17 0 (ye v17 16 e17 c17) F l17 a17)
  have g17 : Fg [] [2] ν ν17 := (fg_tr g16 f17 (fun a ha => ha) (fun a ha => ha))
  have n17 := no v17 16 e17 c17
  refine ev_callP (sX10_isHere hT (j := 17) (by decide) b ν17 l17 d hd) (fun v18 ν18 ⟨e18, f18, l18, a18⟩ => ev_br (fun c18 => ?_) (fun c18 => ?_))
  rotate_left
  · have F : Fg [] [2] ν ν18 := (fg_tr g17 f18 (fun a ha => ha) (fun a ha => ha))
    exact ev_row (fun m => tX10_isOwnHere_218 _ m b ν18 0) (y223 ν18 0 (ye v18 17 e18 c18) F l18 a18)
  have g18 : Fg [] [2] ν ν18 := (fg_tr g17 f18 (fun a ha => ha) (fun a ha => ha))
  have n18 := no v18 17 e18 c18
  refine ev_row (fun m => tX10_isOwnHere_223 _ m b ν18 0 0) (ev_pos rfl ?_)
  refine ev_callP (sX10_isHere hT (j := 18) (by decide) b ν18 l18 d hd) (fun v19 ν19 ⟨e19, f19, l19, a19⟩ => ev_br (fun c19 => ?_) (fun c19 => ?_))
  rotate_left
  · have F : Fg [] [2] ν ν19 := (fg_tr g18 f19 (fun a ha => ha) (fun a ha => ha))
    exact ev_row (fun m => tX10_isOwnHere_272 _ m b ν19 0) (fin ν19 0 1 (Or.inr rfl) (t01_pos (ye v19 18 e19 c19)).symm F l19 a19)
  have g19 : Fg [] [2] ν ν19 := (fg_tr g18 f19 (fun a ha => ha) (fun a ha => ha))
  have n19 := no v19 18 e19 c19
  refine ev_callP (sX10_isHere hT (j := 19) (by decide) b ν19 l19 d hd) (fun v20 ν20 ⟨e20, f20, l20, a20⟩ => ev_br (fun c20 => ?_) (fun c20 => ?_))
  rotate_left
  · have F : Fg [] [2] ν ν20 := (fg_tr g19 f20 (fun a ha => ha) (fun a ha => ha))
    exact ev_row (fun m => tX10_isOwnHere_272 _ m b ν20 0) (fin ν20 0 1 (Or.inr rfl) (t01_pos (ye v20 19 e20 c20)).symm F l20 a20)
  have g20 : Fg [] [2] ν ν20 := (fg_tr g19 f20 (fun a ha => ha) (fun a ha => ha))
  have n20 := no v20 19 e20 c20
  refine ev_callP (sX10_isHere hT (j := 20) (by decide) b ν20 l20 d hd) (fun v21 ν21 ⟨e21, f21, l21, a21⟩ => ev_br (fun c21 => ?_) (fun c21 => ?_))
  rotate_left
  · have F : Fg [] [2] ν ν21 := (fg_tr g20 f21 (fun a ha => ha) (fun a ha => ha))
    exact ev_row (fun m => tX10_isOwnHere_272 _ m b ν21 0) (fin ν21 0 1 (Or.inr rfl) (t01_pos (ye v21 20 e21 c21)).symm F l21 a21)
  have g21 : Fg [] [2] ν ν21 := (fg_tr g20 f21 (fun a ha => ha) (fun a ha => ha))
  have n21 := no v21 20 e21 c21
  refine ev_callP (sX10_isHere hT (j := 21) (by decide) b ν21 l21 d hd) (fun v22 ν22 ⟨e22, f22, l22, a22⟩ => ev_br (fun c22 => ?_) (fun c22 => ?_))
  rotate_left
  · have F : Fg [] [2] ν ν22 := (fg_tr g21 f22 (fun a ha => ha) (fun a ha => ha))
    exact ev_row (fun m => tX10_isOwnHere_272 _ m b ν22 0) (fin ν22 0 1 (Or.inr rfl) (t01_pos (ye v22 21 e22 c22)).symm F l22 a22)
  have g22 : Fg [] [2] ν ν22 := (fg_tr g21 f22 (fun a ha => ha) (fun a ha => ha))
  have n22 := no v22 21 e22 c22
  refine fin ν22 0 0 (Or.inl rfl) (t01_neg (tkW_22 (fun j hj => ?_))).symm g22 l22 a22
  intro q
  have hj' : j = 0 ∨ j = 1 ∨ j = 2 ∨ j = 3 ∨ j = 4 ∨ j = 5 ∨ j = 6 ∨ j = 7 ∨ j = 8 ∨ j = 9 ∨ j = 10 ∨ j = 11 ∨ j = 12 ∨ j = 13 ∨ j = 14 ∨ j = 15 ∨ j = 16 ∨ j = 17 ∨ j = 18 ∨ j = 19 ∨ j = 20 ∨ j = 21 := by omega
  rcases hj' with e | e | e | e | e | e | e | e | e | e | e | e | e | e | e | e | e | e | e | e | e | e <;> rw [e] at q <;> first | exact n1 q | exact n2 q | exact n3 q | exact n4 q | exact n5 q | exact n6 q | exact n7 q | exact n8 q | exact n9 q | exact n10 q | exact n11 q | exact n12 q | exact n13 q | exact n14 q | exact n15 q | exact n16 q | exact n17 q | exact n18 q | exact n19 q | exact n20 q | exact n21 q | exact n22 q
