/-! ===== images ===== -/
def chkF (f : Int → Int) : Nat → Int → Int → Int
  | 0, _, c => c
  | k + 1, i, c => chkF f k (i + 1) ((3 * c + f i) % 247)
theorem chkF_in {f : Int → Int} : ∀ (k : Nat) (i c : Int), 0 ≤ c → c < 247 → 0 ≤ chkF f k i c ∧ chkF f k i c < 247
  | 0, _, _, h0, h1 => ⟨h0, h1⟩
  | k + 1, i, c, h0, h1 => chkF_in k (i + 1) _ (Int.emod_nonneg _ (by decide)) (Int.emod_lt_of_pos _ (by decide))
theorem chkF_congr {f g : Int → Int} : ∀ (k : Nat) (i c : Int), (∀ j, i ≤ j → j < i + k → f j = g j) → chkF f k i c = chkF g k i c
  | 0, _, _, _ => rfl
  | k + 1, i, c, h => by rw [chkF, chkF, h i (by omega) (by omega)]; exact chkF_congr k (i + 1) _ (fun j h0 h1 => h j (by omega) (by omega))
theorem sX1_sumUp (a N : Nat) (n : Nat) (b : Bool) (μ : Nat → Int → Int) (hs : shp a = (0, N)) (hN : N ≤ 2000) (hn : n ≤ N) (hb : ∀ i, 0 ≤ i → i < (n : Int) → 0 ≤ μ a i ∧ μ a i ≤ 255) : ∀ d, 1 ≤ d → mCallN d 143 [mP a, mI n] (SH, μ, RHO b) = some (chkF (μ a) n 0 157, SH, μ, RHO b) := deep fun d _ => by
  refine cal_eq (cal_ev (fun r => call_X1_sumUp d b μ a n) (ev_row (fun m => tX1_sumUp_0 _ m b μ a n) ?_))
  have hsh : mShape (SH, μ, RHO b) a = (0, N) := shape_of hs
  have lp : ∀ (k : Nat) (i c : Int), 0 ≤ i → i + k = n → 0 ≤ c → c < 247 → Ev (fun m => mRun (mCallN d) kX1_sumUp m 6 [some (mP a), some (mI n), some (mI c), some (mI i)] [] (SH, μ, RHO b)) b (fun v' μ2 => v' = chkF (μ a) k i c ∧ μ2 = μ) := by
    intro k
    induction k with
    | zero =>
      intro i c h0 hk c0 c1
      exact ev_row (fun m => tX1_sumUp_6 _ m b μ n c i a) (ev_neg (by omega) (ev_row (fun m => tX1_sumUp_35 _ m b μ n c i a) (ev_ret ⟨rfl, rfl⟩)))
    | succ k ih =>
      intro i c h0 hk c0 c1
      have hbi := hb i h0 (by omega)
      refine ev_row (fun m => tX1_sumUp_6 _ m b μ n c i a) (ev_pos (by omega) (ev_bif (by rw [hsh]; rfl) (ev_pos (by rw [hsh]; show i < ((N : Nat) : Int); omega) (ev_bif (arr_of hs) (ev_if (by rw [hsh]; show 0 ≤ i ∧ i < ((N : Nat) : Int); omega) ?_)))))
      rw [w32_id (x := 3 * c) (by omega) (by omega), w32_id (x := 3 * c + μ a i) (by omega) (by omega), iRem_p (by omega) (by omega) (by decide) (by decide), w32_id (by omega) (by omega), chkF]
      exact ih (i + 1) _ (by omega) (by omega) (Int.emod_nonneg _ (by decide)) (Int.emod_lt_of_pos _ (by decide))
  exact lp n 0 157 (by decide) (by omega) (by decide) (by decide)
theorem sX10_checked (a N : Nat) (n : Nat) (b : Bool) (μ : Nat → Int → Int) (hs : shp a = (0, N)) (hN : N ≤ 2000) (hn : n ≤ N) (hb : ∀ i, 0 ≤ i → i < (n : Int) → 0 ≤ μ a i ∧ μ a i ≤ 255) : ∀ d, 1 ≤ d → mCallN d 21 [mP a, mI n] (SH, μ, RHO b) = some (chkF (μ a) n 0 157, SH, μ, RHO b) := deep fun d _ => by
  refine cal_eq (cal_ev (fun r => call_X10_checked d b μ a n) (ev_row (fun m => tX10_checked_0 _ m b μ a n) ?_))
  have hsh : mShape (SH, μ, RHO b) a = (0, N) := shape_of hs
  have lp : ∀ (k : Nat) (i c : Int), 0 ≤ i → i + k = n → 0 ≤ c → c < 247 → Ev (fun m => mRun (mCallN d) kX10_checked m 6 [some (mP a), some (mI n), some (mI c), some (mI i)] [] (SH, μ, RHO b)) b (fun v' μ2 => v' = chkF (μ a) k i c ∧ μ2 = μ) := by
    intro k
    induction k with
    | zero =>
      intro i c h0 hk c0 c1
      exact ev_row (fun m => tX10_checked_6 _ m b μ n c i a) (ev_neg (by omega) (ev_ret ⟨rfl, rfl⟩))
    | succ k ih =>
      intro i c h0 hk c0 c1
      have hbi := hb i h0 (by omega)
      refine ev_row (fun m => tX10_checked_6 _ m b μ n c i a) (ev_pos (by omega) (ev_bif (arr_of hs) (ev_if (by rw [hsh]; show 0 ≤ i ∧ i < ((N : Nat) : Int); omega) ?_)))
      rw [w32_id (x := 3 * c) (by omega) (by omega), w32_id (x := 3 * c + μ a i) (by omega) (by omega), iRem_p (by omega) (by omega) (by decide) (by decide), w32_id (by omega) (by omega), chkF]
      exact ih (i + 1) _ (by omega) (by omega) (Int.emod_nonneg _ (by decide)) (Int.emod_lt_of_pos _ (by decide))
  exact lp n 0 157 (by decide) (by omega) (by decide) (by decide)
/-- bytes so far, in a cell -/
def Byt (f : Int → Int) (n : Int) (l : List Int) : Prop := n = l.length ∧ (∀ j : Nat, j < l.length → f j = l.getD j 0) ∧ ∀ x ∈ l, 0 ≤ x ∧ x ≤ 255
theorem Byt_snoc {f : Int → Int} {n v : Int} {l : List Int} (h : Byt f n l) (hv : 0 ≤ v ∧ v ≤ 255) : Byt (uPd f n v) (n + 1) (l ++ [v]) := by
  obtain ⟨h1, h2, h3⟩ := h
  refine ⟨by rw [List.length_append, List.length_singleton]; omega, fun j hj => ?_, fun x hx => ?_⟩
  · rw [List.length_append, List.length_singleton] at hj
    rw [uPd_at, List.getD_eq_getElem?_getD]
    by_cases e : j < l.length
    · rw [if_neg (by omega), List.getElem?_append_left e, ← List.getD_eq_getElem?_getD]; exact h2 j e
    · rw [if_pos (by omega), List.getElem?_append_right (by omega), show j - l.length = 0 by omega]; rfl
  · rcases List.mem_append.1 hx with e | e
    · exact h3 x e
    · rw [List.mem_singleton.1 e]; exact hv
theorem iAnd_mod {v : Int} (h0 : 0 ≤ v) (h1 : v < 2147483648) : iAnd v 255 = v % 256 := by
  rw [iAnd_n h0 h1 (by decide) (by decide)]
  have e : v.toNat &&& (255 : Int).toNat = v.toNat % 256 := Nat.and_two_pow_sub_one_eq_mod v.toNat 8
  rw [e]; omega
theorem sX1_put (v : Int) (l : List Int) (b : Bool) (μ : Nat → Int → Int) (h0 : 0 ≤ v) (h1 : v < 2147483648) (hl : l.length < 88) (hB : Byt (μ 73) (μ 72 1) l) : ∀ d, 1 ≤ d → Cal d 139 [mP 72, mI v] b μ (fun _ μ' => Fr [72, 73] μ μ' ∧ Byt (μ' 73) (μ' 72 1) (l ++ [v % 256])) := deepC fun d _ => by
  have hn := hB.1
  refine cal_ev (fun r => call_X1_put d b μ v) (ev_row (fun m => tX1_put_0 _ m b μ v) (ev_pos (by omega) (ev_if (by omega) ?_)))
  rw [m2_ne (by decide : (72 : Nat) ≠ 73), w32_id (by omega) (by omega), iAnd_mod h0 h1]
  refine ev_row (fun m => tX1_put_33 _ m b _ v) (ev_ret ⟨fr_m2 (fr_m2 fr_rfl (by decide)) (by decide), ?_⟩)
  rw [m2_ne (by decide : (73 : Nat) ≠ 72), m2_uPd, m2_at, if_pos rfl]
  exact Byt_snoc hB (by omega)
theorem sX1_putTwo (v : Int) (l : List Int) (b : Bool) (μ : Nat → Int → Int) (h0 : 0 ≤ v) (h1 : v < 65536) (hl : l.length < 87) (hB : Byt (μ 73) (μ 72 1) l) : ∀ d, 2 ≤ d → Cal d 140 [mP 72, mI v] b μ (fun _ μ' => Fr [72, 73] μ μ' ∧ Byt (μ' 73) (μ' 72 1) (l ++ [v / 256] ++ [v % 256])) := deepC fun d hd => by
  have e8 : iShr v 8 = v / 256 := by
    rw [iShr_n h0 (by omega) (by decide) (by decide)]
    show ((v.toNat >>> 8 : Nat) : Int) = _
    rw [Nat.shiftRight_eq_div_pow]; omega
  refine cal_ev (fun r => call_X1_putTwo d b μ v) (ev_row (fun m => tX1_putTwo_0 _ m b μ v) ?_)
  rw [e8]
  refine ev_callP (sX1_put (v / 256) l b μ (by omega) (by omega) (by omega) hB d hd) (fun _ μ1 ⟨f1, b1⟩ => ?_)
  rw [show v / 256 % 256 = v / 256 by omega] at b1
  exact ev_callP (sX1_put v (l ++ [v / 256]) b μ1 h0 (by omega) (by rw [List.length_append, List.length_singleton]; omega) b1 d hd) (fun _ μ2 ⟨f2, b2⟩ => ev_ret ⟨fr_tr f1 f2 (fun a h => h), b2⟩)
theorem sX10_writes1 (v : Int) (l : List Int) (b : Bool) (μ : Nat → Int → Int) (h0 : 0 ≤ v) (h1 : v < 2147483648) (hl : l.length < 100) (hB : Byt (μ 143) (μ 96 71) l) : ∀ d, 1 ≤ d → Cal d 133 [mP 96, mI v, mI 1] b μ (fun _ μ' => Fg [143] [71] μ μ' ∧ Byt (μ' 143) (μ' 96 71) (l ++ [v % 256])) := deepC fun d _ => by
  have hn := hB.1
  refine cal_ev (fun r => call_X10_writes d b μ v 1) (ev_row (fun m => tX10_writes_0 _ m b μ v 1) (ev_neg (by decide) (ev_row (fun m => tX10_writes_29 _ m b μ v 1) (ev_if (by omega) ?_))))
  rw [m2_ne (by decide : (96 : Nat) ≠ 143), w32_id (by omega) (by omega), iRem_p h0 h1 (by decide) (by decide)]
  refine ev_ret ⟨fg_m96 (fg_m2 fg_rfl (by decide) (by decide)) (by decide), ?_⟩
  rw [m2_ne (by decide : (143 : Nat) ≠ 96), m2_uPd, m2_at, if_pos rfl]
  exact Byt_snoc hB (by omega)
theorem sX10_writes2 (v : Int) (l : List Int) (b : Bool) (μ : Nat → Int → Int) (h0 : 0 ≤ v) (h1 : v < 65536) (hl : l.length < 99) (hB : Byt (μ 143) (μ 96 71) l) : ∀ d, 1 ≤ d → Cal d 133 [mP 96, mI v, mI 2] b μ (fun _ μ' => Fg [143] [71] μ μ' ∧ Byt (μ' 143) (μ' 96 71) (l ++ [v / 256] ++ [v % 256])) := deepC fun d _ => by
  have hn := hB.1
  refine cal_ev (fun r => call_X10_writes d b μ v 2) (ev_row (fun m => tX10_writes_0 _ m b μ v 2) (ev_pos rfl (ev_if (by omega) ?_)))
  rw [m2_ne (by decide : (96 : Nat) ≠ 143), w32_id (by omega) (by omega), iDiv_p h0 (by omega) (by decide) (by decide)]
  have b1 := Byt_snoc hB (v := v / 256) (by omega)
  refine ev_row (fun m => tX10_writes_29 _ m b _ v 2) (ev_if (by rw [m2_at, if_pos rfl]; omega) ?_)
  rw [m2_ne (by decide : (96 : Nat) ≠ 143), m2_at, if_pos rfl, w32_id (by omega) (by omega), iRem_p h0 (by omega) (by decide) (by decide)]
  refine ev_ret ⟨fg_m96 (fg_m2 (fg_m96 (fg_m2 fg_rfl (by decide) (by decide)) (by decide)) (by decide) (by decide)) (by decide), ?_⟩
  rw [m2_ne (by decide : (143 : Nat) ≠ 96), m2_uPd, m2_ne (by decide : (143 : Nat) ≠ 96), m2_uPd, m2_at, if_pos rfl]
  exact Byt_snoc b1 (by omega)
/-! the row as bytes -/
def imG (f : Int → Int) : Nat → Int → List Int → List Int
  | 0, _, l => l
  | k + 1, i, l => imG f k (i + 1) (l ++ [f (2 + i) % 256])
def imM (f : Int → Int) : Nat → Int → List Int → List Int
  | 0, _, l => l
  | k + 1, i, l => imM f k (i + 1) (l ++ [f (14 + i) % 256] ++ [f (26 + i) / 256] ++ [f (26 + i) % 256])
def imP (f : Int → Int) : Nat → Int → List Int → List Int
  | 0, _, l => l
  | k + 1, i, l => imP f k (i + 1) (l ++ [f (38 + i) % 256] ++ [f (44 + i) % 256] ++ [f (50 + i) / 256] ++ [f (50 + i) % 256] ++ [f (56 + i) / 256] ++ [f (56 + i) % 256])
def imL (f : Int → Int) (G M P : Nat) : List Int := imP f P 0 (imM f M 0 (imG f G 0 ([f 0 / 256] ++ [f 0 % 256] ++ [f 1 % 256])))
def imA (f : Int → Int) (G M P : Nat) : List Int := imL f G M P ++ [chkF (fun i => (imL f G M P).getD i.toNat 0) (imL f G M P).length 0 157 % 256]
