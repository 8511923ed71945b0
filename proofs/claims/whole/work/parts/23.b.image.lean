/-- a row's numbers as an image takes them -/
def rowI (f : Int → Int) : Prop := (0 ≤ f 0 ∧ f 0 < 65536) ∧ (0 ≤ f 1 ∧ f 1 < 65536) ∧ (∀ g, 0 ≤ g → g < 12 → 0 ≤ f (2 + g) ∧ f (2 + g) < 65536) ∧ (∀ m, 0 ≤ m → m < 12 → (0 ≤ f (14 + m) ∧ f (14 + m) < 65536) ∧ 0 ≤ f (26 + m) ∧ f (26 + m) < 65536) ∧ (∀ p, 0 ≤ p → p < 6 → (0 ≤ f (38 + p) ∧ f (38 + p) < 65536) ∧ (0 ≤ f (44 + p) ∧ f (44 + p) < 65536) ∧ (0 ≤ f (50 + p) ∧ f (50 + p) < 65536) ∧ 0 ≤ f (56 + p) ∧ f (56 + p) < 65536)
theorem R_rowI {b : Bool} {μ : Nat → Int → Int} (hR : R b μ) : rowI (μ 74) := by
  have hC := Rcnt_C hR.1.1
  obtain ⟨⟨z1, z2, z3⟩, ⟨w1, w2, w3⟩, -, -⟩ := hR.1.1
  obtain ⟨hA, o2, o3, o4, o5, o6, o7, o8, o9, o10, o11⟩ := hR.2.1.2
  refine ⟨by have := hA.1; omega, by have := hA.2.1; omega, fun g g0 g1 => ?_, fun m m0 m1 => ?_, fun p p0 p1 => ?_⟩
  · by_cases e : g < μ (tw b + 1) 2
    · have := o2 g g0 e; omega
    · have := o5 g (by omega) g1; omega
  · have := hA.2.2.1 m m0 m1
    have := R_purse hR m m0 m1
    omega
  · have h1 := R_coins hR p p0 p1
    have h2 := hA.2.2.2 p p0 p1
    by_cases e : p < μ (tw b + 1) 3
    · obtain ⟨u1, u2, u3⟩ := o8 p p0 e; omega
    · obtain ⟨u1, u2, u3, u4⟩ := o10 p (by omega) p1; omega
theorem len_app1 (l : List Int) (a : Int) : (l ++ [a]).length = l.length + 1 := by rw [List.length_append, List.length_singleton]
theorem imG_len {f : Int → Int} : ∀ (k : Nat) (i : Int) (l : List Int), (imG f k i l).length = l.length + k
  | 0, _, _ => rfl
  | k + 1, i, l => by rw [imG, imG_len k, len_app1]; omega
theorem imM_len {f : Int → Int} : ∀ (k : Nat) (i : Int) (l : List Int), (imM f k i l).length = l.length + 3 * k
  | 0, _, _ => rfl
  | k + 1, i, l => by rw [imM, imM_len k, len_app1, len_app1, len_app1]; omega
theorem imP_len {f : Int → Int} : ∀ (k : Nat) (i : Int) (l : List Int), (imP f k i l).length = l.length + 6 * k
  | 0, _, _ => rfl
  | k + 1, i, l => by rw [imP, imP_len k, len_app1, len_app1, len_app1, len_app1, len_app1, len_app1]; omega
theorem sX1_write (b : Bool) (μ : Nat → Int → Int) {G M P : Nat} (hG : μ (tw b + 1) 2 = G) (hM : μ (tw b + 1) 1 = M) (hP : μ (tw b + 1) 3 = P) (hG1 : G ≤ 12) (hM1 : M ≤ 12) (hP1 : P ≤ 6) (hf : rowI (μ 74)) : ∀ d, 3 ≤ d → Cal d 145 [mP 72, mP (tw b), mP 74] b μ (fun _ μ' => Fr [72, 73] μ μ' ∧ Byt (μ' 73) (μ' 72 1) (imA (μ 74) G M P)) := deepC fun d hd => by
  obtain ⟨i0, i1, iG, iM, iP⟩ := hf
  have hs : shp 74 = (0, 62) := rfl
  have kn : ∀ {μ' : Nat → Int → Int}, Fr [72, 73] μ μ' → μ' 74 = μ 74 ∧ μ' (tw b + 1) = μ (tw b + 1) := fun h => ⟨h 74 (by decide), h _ (by have := tw_or b; simp only [List.mem_cons, List.not_mem_nil, or_false]; omega)⟩
  refine cal_ev (fun r => call_X1_write d b μ 74 b) (ev_row (fun m => tX1_write_0 _ m b μ 74 b) ?_)
  have f0 : Fr [72, 73] μ (m2 μ 72 1 0) := fr_m2 fr_rfl (by decide)
  have b0 : Byt (m2 μ 72 1 0 73) (m2 μ 72 1 0 72 1) [] := ⟨by rw [m2_at, if_pos rfl]; rfl, fun j hj => absurd hj (by simp), fun x hx => absurd hx List.not_mem_nil⟩
  have pT : Cal d 140 [mP 72, mI (m2 μ 72 1 0 74 0)] b (m2 μ 72 1 0) (fun _ μ' => Fr [72, 73] (m2 μ 72 1 0) μ' ∧ Byt (μ' 73) (μ' 72 1) ([] ++ [μ 74 0 / 256] ++ [μ 74 0 % 256])) := by
    rw [m2_ne (by decide : (74 : Nat) ≠ 72)]
    exact sX1_putTwo (μ 74 0) [] b _ i0.1 i0.2 (by decide) b0 d (by omega)
  refine ev_bif (arr_of hs) (ev_if (by rw [shape_of hs]; decide) (ev_callP pT (fun _ μ1 ⟨f1, b1⟩ => ?_)))
  have f1' := fr_tr f0 f1 (fun a h => h)
  have pH : Cal d 139 [mP 72, mI (μ1 74 1)] b μ1 (fun _ μ' => Fr [72, 73] μ1 μ' ∧ Byt (μ' 73) (μ' 72 1) ([μ 74 0 / 256] ++ [μ 74 0 % 256] ++ [μ 74 1 % 256])) := by
    rw [(kn f1').1]
    exact sX1_put (μ 74 1) ([μ 74 0 / 256] ++ [μ 74 0 % 256]) b μ1 i1.1 (by omega) (by simp) b1 d (by omega)
  refine ev_bif (arr_of hs) (ev_if (by rw [shape_of hs]; decide) (ev_callP pH (fun _ μ2 ⟨f2, b2⟩ => ?_)))
  have f2' := fr_tr f1' f2 (fun a h => h)
  have lpP : ∀ (k : Nat) (i : Int) (l : List Int) (μ' : Nat → Int → Int), 0 ≤ i → i + k = P → (l.length : Int) = 3 + G + 3 * M + 6 * i → imP (μ 74) k i l = imL (μ 74) G M P → Fr [72, 73] μ μ' → Byt (μ' 73) (μ' 72 1) l → Ev (fun m => mRun (mCallN d) kX1_write m 86 [some (mP 72), some (mP (tw b)), some (mP 74), some (mI i)] [] (SH, μ', RHO b)) b (fun _ μ' => Fr [72, 73] μ μ' ∧ Byt (μ' 73) (μ' 72 1) (imA (μ 74) G M P)) := by
    intro k
    induction k with
    | zero =>
      intro i l μ' h0 hk hl he hfr hb
      rw [imP] at he
      have hlen := hb.1
      have hlen' : μ' 72 1 = ((l.length : Nat) : Int) := hlen
      have hS : mCallN d 143 [mP 73, mI (μ' 72 1)] (SH, μ', RHO b) = some (chkF (μ' 73) l.length 0 157, SH, μ', RHO b) := by
        rw [hlen']
        exact sX1_sumUp 73 88 l.length b μ' rfl (by decide) (by omega) (fun j j0 j1 => by
          have h := hb.2.1 j.toNat (by omega)
          rw [show ((j.toNat : Nat) : Int) = j by omega] at h
          rw [h, List.getD_eq_getElem?_getD, List.getElem?_eq_getElem (by omega)]
          exact hb.2.2 _ (List.getElem_mem _)) d (by omega)
      have hc : chkF (μ' 73) l.length 0 157 = chkF (fun i => (imL (μ 74) G M P).getD i.toNat 0) (imL (μ 74) G M P).length 0 157 := by
        rw [← he]
        exact chkF_congr _ _ _ (fun j j0 j1 => by
          have h := hb.2.1 j.toNat (by omega)
          rw [show ((j.toNat : Nat) : Int) = j by omega] at h
          exact h)
      have hci := chkF_in (f := μ' 73) l.length 0 157 (by decide) (by decide)
      refine ev_row (fun m => tX1_write_86 _ m b μ' i 74 b) (ev_neg (by rw [(kn hfr).2]; omega) (ev_call hS (ev_callP (sX1_put (chkF (μ' 73) l.length 0 157) l b μ' hci.1 (by omega) (by omega) hb d (by omega)) (fun _ μ3 ⟨f3, b3⟩ => ev_ret ⟨fr_tr hfr f3 (fun a h => h), ?_⟩))))
      show Byt (μ3 73) (μ3 72 1) _
      unfold imA
      rw [← hc, ← he]; exact b3
    | succ k ih =>
      intro i l μ' h0 hk hl he hfr hb
      obtain ⟨q1, q2, q3, q4⟩ := iP i h0 (by omega)
      have e1 : w32 (38 + i) = 38 + i := w32_id (by omega) (by omega)
      have e2 : w32 (44 + i) = 44 + i := w32_id (by omega) (by omega)
      have e3 : w32 (50 + i) = 50 + i := w32_id (by omega) (by omega)
      have e4 : w32 (56 + i) = 56 + i := w32_id (by omega) (by omega)
      have e5 : w32 (i + 1) = i + 1 := w32_id (by omega) (by omega)
      refine ev_row (fun m => tX1_write_86 _ m b μ' i 74 b) (ev_pos (by rw [(kn hfr).2]; omega) ?_)
      rw [e1, e2, e3, e4, e5, (kn hfr).1]
      refine ev_bif (arr_of hs) (ev_if (by rw [shape_of hs]; show 0 ≤ 38 + i ∧ 38 + i < ((62 : Nat) : Int); omega) (ev_callP (sX1_put (μ 74 (38 + i)) l b μ' q1.1 (by omega) (by omega) hb d (by omega)) (fun _ μ3 ⟨f3, b3⟩ => ?_)))
      have f3' := fr_tr hfr f3 (fun a h => h)
      have c2 : Cal d 139 [mP 72, mI (μ3 74 (44 + i))] b μ3 (fun _ μ' => Fr [72, 73] μ3 μ' ∧ Byt (μ' 73) (μ' 72 1) (l ++ [μ 74 (38 + i) % 256] ++ [μ 74 (44 + i) % 256])) := by
        rw [(kn f3').1]; exact sX1_put (μ 74 (44 + i)) _ b μ3 q2.1 (by omega) (by rw [len_app1]; omega) b3 d (by omega)
      refine ev_bif (arr_of hs) (ev_if (by rw [shape_of hs]; show 0 ≤ 44 + i ∧ 44 + i < ((62 : Nat) : Int); omega) (ev_callP c2 (fun _ μ4 ⟨f4, b4⟩ => ?_)))
      have f4' := fr_tr f3' f4 (fun a h => h)
      have c3 : Cal d 140 [mP 72, mI (μ4 74 (50 + i))] b μ4 (fun _ μ' => Fr [72, 73] μ4 μ' ∧ Byt (μ' 73) (μ' 72 1) (l ++ [μ 74 (38 + i) % 256] ++ [μ 74 (44 + i) % 256] ++ [μ 74 (50 + i) / 256] ++ [μ 74 (50 + i) % 256])) := by
        rw [(kn f4').1]; exact sX1_putTwo (μ 74 (50 + i)) _ b μ4 q3.1 (by omega) (by rw [len_app1, len_app1]; omega) b4 d (by omega)
      refine ev_bif (arr_of hs) (ev_if (by rw [shape_of hs]; show 0 ≤ 50 + i ∧ 50 + i < ((62 : Nat) : Int); omega) (ev_callP c3 (fun _ μ5 ⟨f5, b5⟩ => ?_)))
      have f5' := fr_tr f4' f5 (fun a h => h)
      have c4 : Cal d 140 [mP 72, mI (μ5 74 (56 + i))] b μ5 (fun _ μ' => Fr [72, 73] μ5 μ' ∧ Byt (μ' 73) (μ' 72 1) (l ++ [μ 74 (38 + i) % 256] ++ [μ 74 (44 + i) % 256] ++ [μ 74 (50 + i) / 256] ++ [μ 74 (50 + i) % 256] ++ [μ 74 (56 + i) / 256] ++ [μ 74 (56 + i) % 256])) := by
        rw [(kn f5').1]; exact sX1_putTwo (μ 74 (56 + i)) _ b μ5 q4.1 (by omega) (by rw [len_app1, len_app1, len_app1, len_app1]; omega) b5 d (by omega)
      refine ev_bif (arr_of hs) (ev_if (by rw [shape_of hs]; show 0 ≤ 56 + i ∧ 56 + i < ((62 : Nat) : Int); omega) (ev_callP c4 (fun _ μ6 ⟨f6, b6⟩ => ?_)))
      refine ih (i + 1) _ μ6 (by omega) (by omega) ?_ (by rw [imP] at he; exact he) (fr_tr f5' f6 (fun a h => h)) b6
      rw [len_app1, len_app1, len_app1, len_app1, len_app1, len_app1]; omega
  have lpM : ∀ (k : Nat) (i : Int) (l : List Int) (μ' : Nat → Int → Int), 0 ≤ i → i + k = M → (l.length : Int) = 3 + G + 3 * i → imP (μ 74) P 0 (imM (μ 74) k i l) = imL (μ 74) G M P → Fr [72, 73] μ μ' → Byt (μ' 73) (μ' 72 1) l → Ev (fun m => mRun (mCallN d) kX1_write m 48 [some (mP 72), some (mP (tw b)), some (mP 74), some (mI i)] [] (SH, μ', RHO b)) b (fun _ μ' => Fr [72, 73] μ μ' ∧ Byt (μ' 73) (μ' 72 1) (imA (μ 74) G M P)) := by
    intro k
    induction k with
    | zero =>
      intro i l μ' h0 hk hl he hfr hb
      refine ev_row (fun m => tX1_write_48 _ m b μ' i 74 b) (ev_neg (by rw [(kn hfr).2]; omega) ?_)
      exact lpP P 0 l μ' (by decide) (by omega) (by omega) he hfr hb
    | succ k ih =>
      intro i l μ' h0 hk hl he hfr hb
      obtain ⟨q1, q2⟩ := iM i h0 (by omega)
      have e1 : w32 (14 + i) = 14 + i := w32_id (by omega) (by omega)
      have e2 : w32 (26 + i) = 26 + i := w32_id (by omega) (by omega)
      have e5 : w32 (i + 1) = i + 1 := w32_id (by omega) (by omega)
      refine ev_row (fun m => tX1_write_48 _ m b μ' i 74 b) (ev_pos (by rw [(kn hfr).2]; omega) ?_)
      rw [e1, e2, e5, (kn hfr).1]
      refine ev_bif (arr_of hs) (ev_if (by rw [shape_of hs]; show 0 ≤ 14 + i ∧ 14 + i < ((62 : Nat) : Int); omega) (ev_callP (sX1_put (μ 74 (14 + i)) l b μ' q1.1 (by omega) (by omega) hb d (by omega)) (fun _ μ3 ⟨f3, b3⟩ => ?_)))
      have f3' := fr_tr hfr f3 (fun a h => h)
      have c3 : Cal d 140 [mP 72, mI (μ3 74 (26 + i))] b μ3 (fun _ μ' => Fr [72, 73] μ3 μ' ∧ Byt (μ' 73) (μ' 72 1) (l ++ [μ 74 (14 + i) % 256] ++ [μ 74 (26 + i) / 256] ++ [μ 74 (26 + i) % 256])) := by
        rw [(kn f3').1]; exact sX1_putTwo (μ 74 (26 + i)) _ b μ3 q2.1 (by omega) (by rw [len_app1]; omega) b3 d (by omega)
      refine ev_bif (arr_of hs) (ev_if (by rw [shape_of hs]; show 0 ≤ 26 + i ∧ 26 + i < ((62 : Nat) : Int); omega) (ev_callP c3 (fun _ μ4 ⟨f4, b4⟩ => ?_)))
      refine ih (i + 1) _ μ4 (by omega) (by omega) ?_ (by rw [imM] at he; exact he) (fr_tr f3' f4 (fun a h => h)) b4
      rw [len_app1, len_app1, len_app1]; omega
  have lpG : ∀ (k : Nat) (i : Int) (l : List Int) (μ' : Nat → Int → Int), 0 ≤ i → i + k = G → (l.length : Int) = 3 + i → imP (μ 74) P 0 (imM (μ 74) M 0 (imG (μ 74) k i l)) = imL (μ 74) G M P → Fr [72, 73] μ μ' → Byt (μ' 73) (μ' 72 1) l → Ev (fun m => mRun (mCallN d) kX1_write m 21 [some (mP 72), some (mP (tw b)), some (mP 74), some (mI i)] [] (SH, μ', RHO b)) b (fun _ μ' => Fr [72, 73] μ μ' ∧ Byt (μ' 73) (μ' 72 1) (imA (μ 74) G M P)) := by
    intro k
    induction k with
    | zero =>
      intro i l μ' h0 hk hl he hfr hb
      refine ev_row (fun m => tX1_write_21 _ m b μ' i 74 b) (ev_neg (by rw [(kn hfr).2]; omega) ?_)
      exact lpM M 0 l μ' (by decide) (by omega) (by omega) he hfr hb
    | succ k ih =>
      intro i l μ' h0 hk hl he hfr hb
      have q1 := iG i h0 (by omega)
      have e1 : w32 (2 + i) = 2 + i := w32_id (by omega) (by omega)
      have e5 : w32 (i + 1) = i + 1 := w32_id (by omega) (by omega)
      refine ev_row (fun m => tX1_write_21 _ m b μ' i 74 b) (ev_pos (by rw [(kn hfr).2]; omega) ?_)
      rw [e1, e5, (kn hfr).1]
      refine ev_bif (arr_of hs) (ev_if (by rw [shape_of hs]; show 0 ≤ 2 + i ∧ 2 + i < ((62 : Nat) : Int); omega) (ev_callP (sX1_put (μ 74 (2 + i)) l b μ' q1.1 (by omega) (by omega) hb d (by omega)) (fun _ μ3 ⟨f3, b3⟩ => ?_)))
      refine ih (i + 1) _ μ3 (by omega) (by omega) ?_ (by rw [imG] at he; exact he) (fr_tr hfr f3 (fun a h => h)) b3
      rw [len_app1]; omega
  exact lpG G 0 _ μ2 (by decide) (by omega) (by simp) rfl f2' b2
