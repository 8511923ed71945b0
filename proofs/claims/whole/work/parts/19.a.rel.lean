/-! ===== the whole relation ===== -/
def sumN (g : Int → Int) : Nat → Int
  | 0 => 0
  | n + 1 => sumN g n + g n
/-- a row that can be, by the town's counts C, its gates' men gm, its people's coins tc -/
def rowOK (C gm tc f : Int → Int) : Prop := rowA f ∧
  (∀ g, 0 ≤ g → g < C 2 → 0 ≤ f (2 + g) ∧ f (2 + g) < C 1) ∧ (∀ g h, 0 ≤ g → g < C 2 → 0 ≤ h → h < C 2 → f (2 + g) = f (2 + h) → g = h) ∧
  (∀ m, (∃ g, 0 ≤ g ∧ g < C 2 ∧ f (2 + g) = m) ↔ (∃ g, 0 ≤ g ∧ g < C 2 ∧ gm g = m)) ∧ (∀ g, C 2 ≤ g → g < 12 → f (2 + g) = 0) ∧
  (∀ m, 0 ≤ m → m < 12 → 0 ≤ f (26 + m)) ∧ (∀ m, C 1 ≤ m → m < 12 → f (14 + m) = 0 ∧ f (26 + m) = 0) ∧
  (∀ p, 0 ≤ p → p < C 3 → (0 ≤ f (38 + p) ∧ f (38 + p) < C 0) ∧ (0 ≤ f (44 + p) ∧ f (44 + p) < C 0) ∧ f (56 + p) < ((2 ^ (C 1).toNat : Nat) : Int)) ∧
  (∀ p, 0 ≤ p → p < 6 → 0 ≤ f (50 + p)) ∧ (∀ p, C 3 ≤ p → p < 6 → f (38 + p) = 0 ∧ f (44 + p) = 0 ∧ f (50 + p) = 0 ∧ f (56 + p) = 0) ∧
  sumN (fun p => f (50 + p)) 6 + sumN (fun m => f (26 + m)) 12 = sumN tc (C 3).toNat
/-- a name's letters, here and there -/
def pk5 : List Int → Int
  | [] => 0
  | c :: r => c + 32 * pk5 r
def pk27 (v : Int) : List Int → Int
  | [] => v
  | c :: r => pk27 (27 * v + c) r
def Rname (x y : Int) : Prop := ∃ ls : List Int, 1 ≤ ls.length ∧ ls.length ≤ 6 ∧ (∀ c ∈ ls, 1 ≤ c ∧ c ≤ 26) ∧ x = pk5 ls ∧ y = pk27 0 ls
def Rnam (b : Bool) (μ : Nat → Int → Int) : Prop := (∀ i, 0 ≤ i → i < μ (tw b + 1) 0 → Rname (μ (tw b + 3) i) (μ 121 (36 + i))) ∧ (∀ i, 0 ≤ i → i < μ (tw b + 1) 1 → Rname (μ (tw b + 4) i) (μ 121 (48 + i))) ∧ (∀ i, 0 ≤ i → i < μ (tw b + 1) 3 → Rname (μ (tw b + 6) i) (μ 121 (60 + i)))
def Rppl (b : Bool) (μ : Nat → Int → Int) : Prop := ∀ p, 0 ≤ p → p < μ (tw b + 1) 3 → μ 125 (24 + 4 * p + 2) = μ (tw b + 13) p ∧ 0 ≤ μ (tw b + 13) p ∧ μ (tw b + 13) p ≤ 999
def Rinj (b : Bool) (μ : Nat → Int → Int) : Prop := ∀ g h, 0 ≤ g → g < μ (tw b + 1) 2 → 0 ≤ h → h < μ (tw b + 1) 2 → μ (tw b + 10) g = μ (tw b + 10) h → g = h
def Rtw (b : Bool) (μ : Nat → Int → Int) : Prop := Rcnt b μ ∧ Rgat b μ ∧ Rinj b μ ∧ Rtir b μ ∧ Rtac b μ ∧ Rppl b μ ∧ Rnam b μ ∧ Rcod b μ
def rowR (b : Bool) (μ : Nat → Int → Int) (f : Int → Int) : Prop := rowOK (μ (tw b + 1)) (μ (tw b + 10)) (μ (tw b + 13)) f
def Rnow (b : Bool) (μ : Nat → Int → Int) : Prop := Rrow (μ 74) (μ 133) ∧ rowR b μ (μ 74)
def Rhis (b : Bool) (μ : Nat → Int → Int) : Prop := (μ 96 58 = μ 50 2 ∧ 0 ≤ μ 50 2 ∧ μ 50 2 ≤ 20) ∧ (μ 96 59 = μ 50 1 ∧ 0 ≤ μ 50 1 ∧ μ 50 1 < 20) ∧
  (∀ j, 0 ≤ j → j < 20 → Rrow (μ (52 + j.toNat)) (fun i => μ 138 (62 * nx20 j + i))) ∧ (∀ i, 1 ≤ i → i ≤ μ 50 2 → rowR b μ (μ (52 + ((μ 50 1 - i) % 20).toNat)))
def Rtap (μ : Nat → Int → Int) : Prop := (μ 96 1 = μ 2 1 ∧ 0 ≤ μ 2 1 ∧ μ 2 1 ≤ 1600) ∧ ∀ i, 0 ≤ i → i < 1600 → μ 97 i = μ 3 i ∧ 0 ≤ μ 3 i ∧ μ 3 i ≤ 255
def Rsee (b : Bool) (μ : Nat → Int → Int) : Prop := (μ 96 67 = μ 0 10 ∧ 0 ≤ μ 0 10 ∧ μ 0 10 ≤ 20) ∧ ∀ k, 0 ≤ k → k < μ 0 10 → (μ 141 (3 * k) = μ 76 (3 * k) ∧ μ 141 (3 * k + 1) = μ 76 (3 * k + 1) ∧ μ 141 (3 * k + 2) = μ 76 (3 * k + 2)) ∧ (0 ≤ μ 76 (3 * k) ∧ μ 76 (3 * k) ≤ 23) ∧ (0 ≤ μ 76 (3 * k + 1) ∧ μ 76 (3 * k + 1) < μ (tw b + 1) 3) ∧ (0 ≤ μ 76 (3 * k + 2) ∧ μ 76 (3 * k + 2) ≤ 1)
def Rimg (μ : Nat → Int → Int) : Prop := (μ 96 71 = μ 72 1 ∧ 0 ≤ μ 72 1 ∧ μ 72 1 ≤ 88) ∧ ∀ i, 0 ≤ i → i < μ 72 1 → μ 143 i = μ 73 i
/-- the own words: how long each is -/
def wLen : List Nat := [4, 3, 4, 5, 5, 4, 2, 6, 2, 2, 5, 4, 4, 6, 3, 3, 2, 3, 3, 3, 3, 3]
def Rwrd (μ : Nat → Int → Int) : Prop := ∀ j : Nat, j < 22 → ∀ i : Nat, i < wLen.getD j 0 → μ (98 + j) i = xWords.getD (6 * j + i) 0
def Rmsc (b : Bool) (μ : Nat → Int → Int) : Prop := Rtap μ ∧ (μ 96 7 = μ 1 2 ∧ μ 96 8 = μ 1 3) ∧ Rsee b μ ∧ (μ 96 60 = μ 0 11 ∧ 0 ≤ μ 0 11 ∧ μ 0 11 < 2147483648) ∧ Rimg μ ∧ Rwrd μ
/-! standings: what they come to -/
def dst (fa fb w : Int → Int) (n : Nat) (s t : Int) : Int := gIt fa fb w n 10 (fun x => if x = s then 0 else 268435456) t
def ratP (pr : Int → Int → Int) (fa fb : Int → Int) (n : Nat) (f men : Int → Int) : Nat → Int × Int
  | 0 => (0, 0)
  | k + 1 => if dst fa fb (fun g => pr (men g) k) n (f (38 + k)) (f (44 + k)) ≤ f (50 + k) then ((ratP pr fa fb n f men k).1 + 1, (ratP pr fa fb n f men k).2 + dst fa fb (fun g => pr (men g) k) n (f (38 + k)) (f (44 + k))) else ratP pr fa fb n f men k
def better (r s : Int × Int) : Prop := s.1 < r.1 ∨ (r.1 = s.1 ∧ r.2 < s.2)
def fct : Nat → Nat
  | 0 => 1
  | n + 1 => (n + 1) * fct n
/-- the order with a number: of those who are left the so many-th -/
def pmD : Nat → List Int → Nat → List Int
  | 0, _, _ => []
  | n + 1, l, k => l.getD (k / fct n) 0 :: pmD n (l.eraseIdx (k / fct n)) (k % fct n)
def isAt (gm : Int → Int) (m : Int) : Nat → Bool
  | 0 => false
  | n + 1 => isAt gm m n || decide (gm n = m)
def menL (gm : Int → Int) (n : Nat) : List Int := ((List.range 12).map (fun j : Nat => (j : Int))).filter (fun m => isAt gm m n)
def ofL (l : List Int) : Int → Int := fun g => l.getD g.toNat 0
/-- the best of the orders up to a number: its people, its coins, its number -/
def stP (rt : (Int → Int) → Int × Int) (l : List Int) (n : Nat) : Nat → (Int × Int) × Nat
  | 0 => (rt (ofL (pmD n l 0)), 0)
  | k + 1 => if (stP rt l n k).1.1 < (rt (ofL (pmD n l (k + 1)))).1 ∨ ((rt (ofL (pmD n l (k + 1)))).1 = (stP rt l n k).1.1 ∧ (rt (ofL (pmD n l (k + 1)))).2 < (stP rt l n k).1.2) then (rt (ofL (pmD n l (k + 1))), k + 1) else stP rt l n k
def exch (men : Int → Int) (i j : Int) : Int → Int := uPd (uPd men i (men j)) j (men i)
/-- the best exchange: ((people, coins), the two gates), over the second gates j from, over the first gates i from -/
def exJ (rt : (Int → Int) → Int × Int) (men : Int → Int) (i : Int) : Nat → Int → ((Int × Int) × (Int × Int)) → ((Int × Int) × (Int × Int))
  | 0, _, r => r
  | k + 1, j, r => exJ rt men i k (j + 1) (if r.1.1 < (rt (exch men i j)).1 ∨ ((rt (exch men i j)).1 = r.1.1 ∧ (rt (exch men i j)).2 < r.1.2) then (rt (exch men i j), (i, j)) else r)
def exI (rt : (Int → Int) → Int × Int) (men : Int → Int) : Nat → Int → ((Int × Int) × (Int × Int)) → ((Int × Int) × (Int × Int))
  | 0, _, r => r
  | k + 1, i, r => exI rt men k (i + 1) (exJ rt men i k (i + 1) r)
/-- exchanges one by one: ((people, coins), how many, men) -/
def exN (rt : (Int → Int) → Int × Int) (n : Nat) : Nat → (Int × Int) → Int → (Int → Int) → (Int × Int) × Int × (Int → Int)
  | 0, r, c, men => (r, c, men)
  | k + 1, r, c, men => if (exI rt men n 0 (r, (-1, -1))).2.1 = -1 then (r, c, men) else exN rt n k (exI rt men n 0 (r, (-1, -1))).1 (c + 1) (exch men (exI rt men n 0 (r, (-1, -1))).2.1 (exI rt men n 0 (r, (-1, -1))).2.2)
/-- what an order comes to, as things stand -/
def rtM (b : Bool) (μ : Nat → Int → Int) : (Int → Int) → Int × Int := fun men => ratP (fun m p => prc b μ (μ 74) m p (μ (tw b + 14) p)) (μ (tw b + 8)) (μ (tw b + 9)) (μ (tw b + 1) 2).toNat (μ 74) men (μ (tw b + 1) 3).toNat
def stdR (b : Bool) (μ : Nat → Int → Int) : (Int × Int) × Nat := stP (rtM b μ) (menL (μ (tw b + 10)) (μ (tw b + 1) 2).toNat) (μ (tw b + 1) 2).toNat (fct (μ (tw b + 1) 2).toNat - 1)
def exR (b : Bool) (μ : Nat → Int → Int) : (Int × Int) × Int × (Int → Int) := exN (rtM b μ) (μ (tw b + 1) 2).toNat 100000 (rtM b μ (fun g => μ 74 (2 + g))) 0 (fun g => μ 74 (2 + g))
def Rsta (b : Bool) (μ : Nat → Int → Int) : Prop := (μ 44 4 = 0 ∨ μ 44 4 = 1) ∧ (μ 46 4 = 0 ∨ μ 46 4 = 1) ∧
  (μ 44 4 = 1 → μ (tw b + 1) 2 ≤ 6 ∧ μ 44 1 = (stdR b μ).1.1 ∧ μ 44 2 = (stdR b μ).1.2 ∧ ∀ g, 0 ≤ g → g < μ (tw b + 1) 2 → μ 45 g = ofL (pmD (μ (tw b + 1) 2).toNat (menL (μ (tw b + 10)) (μ (tw b + 1) 2).toNat) (stdR b μ).2) g) ∧
  (μ 46 4 = 1 → μ 46 1 = (exR b μ).1.1 ∧ μ 46 2 = (exR b μ).1.2 ∧ μ 46 3 = (exR b μ).2.1 ∧ ∀ g, 0 ≤ g → g < μ (tw b + 1) 2 → μ 47 g = (exR b μ).2.2 g)
def R (b : Bool) (μ : Nat → Int → Int) : Prop := Rtw b μ ∧ Rnow b μ ∧ Rhis b μ ∧ Rmsc b μ ∧ Rsta b μ
/-- two calls, the class's and then the reference's: alike, and all is tied behind -/
def PairA (d : Nat) (b : Bool) (μ : Nat → Int → Int) (zc zm : Nat) (as : List mV) : Prop := ∃ v μ1 μ2, mCallN d zc (mP 0 :: as) (SH, μ, RHO b) = some (v, SH, μ1, RHO b) ∧ mCallN d zm (mP 96 :: as) (SH, μ1, RHO b) = some (v, SH, μ2, RHO b) ∧ R b μ2
theorem pair_alike {d : Nat} {b : Bool} {μ : Nat → Int → Int} {zc zm : Nat} {as : List mV} (h : Alike d b μ zc zm as) (hR : R b μ) : PairA d b μ zc zm as := by
  obtain ⟨v, h1, h2⟩ := h
  exact ⟨v, μ, μ, h1, h2, hR⟩
/-! what the relation's parts read -/
def twL (b : Bool) : List Nat := [tw b + 1, tw b + 3, tw b + 4, tw b + 6, tw b + 7, tw b + 8, tw b + 9, tw b + 10, tw b + 13, tw b + 14, tw b + 15, tw b + 16, tw b + 17, tw b + 18, 120, 121, 122, 124, 125, 126, 128, 129, 130, 134]
theorem Rtw_same {b : Bool} {μ μ' : Nat → Int → Int} (h : ∀ a, a ∈ twL b → μ' a = μ a) (hR : Rtw b μ) : Rtw b μ' := by
  unfold twL at h
  simp only [List.mem_cons, List.not_mem_nil, or_false, forall_eq_or_imp, forall_eq] at h
  obtain ⟨h1, h3, h4, h6, h7, h8, h9, h10, h13, h14, h15, h16, h17, h18, k120, k121, k122, k124, k125, k126, k128, k129, k130, k134⟩ := h
  unfold Rtw Rcnt Rgat Rinj Rtir Rtac Rppl Rnam Rcod at hR ⊢
  rw [h1, h3, h4, h6, h7, h8, h9, h10, h13, h14, h15, h16, h17, h18, k120, k121, k122, k124, k125, k126, k128, k129, k130, k134]
  exact hR
theorem rowR_same {b : Bool} {μ μ' : Nat → Int → Int} {f : Int → Int} (h : ∀ a, a ∈ twL b → μ' a = μ a) (hR : rowR b μ f) : rowR b μ' f := by
  unfold rowR at hR ⊢
  rw [h (tw b + 1) (by simp [twL]), h (tw b + 10) (by simp [twL]), h (tw b + 13) (by simp [twL])]
  exact hR
theorem Rmsc_same {b : Bool} {μ μ' : Nat → Int → Int} (h1 : μ' (tw b + 1) 3 = μ (tw b + 1) 3) (h2 : ∀ a, a ∈ [0, 1, 2, 3, 72, 73, 76, 97, 141, 143] → μ' a = μ a) (h3 : ∀ j, j ∈ [1, 7, 8, 60, 67, 71] → μ' 96 j = μ 96 j) (h4 : ∀ a : Nat, 98 ≤ a → a ≤ 119 → μ' a = μ a) (hR : Rmsc b μ) : Rmsc b μ' := by
  simp only [List.mem_cons, List.not_mem_nil, or_false, forall_eq_or_imp, forall_eq] at h2 h3
  obtain ⟨a0, a1, a2, a3, a72, a73, a76, a97, a141, a143⟩ := h2
  obtain ⟨j1, j7, j8, j60, j67, j71⟩ := h3
  unfold Rmsc Rtap Rsee Rimg at hR ⊢
  rw [h1, a0, a1, a2, a3, a72, a73, a76, a97, a141, a143, j1, j7, j8, j60, j67, j71]
  refine ⟨hR.1, hR.2.1, hR.2.2.1, hR.2.2.2.1, hR.2.2.2.2.1, ?_⟩
  intro j hj i hi
  rw [h4 (98 + j) (by omega) (by omega)]
  exact hR.2.2.2.2.2 j hj i hi
theorem Rhis_same {b : Bool} {μ μ' : Nat → Int → Int} (h : ∀ a, a ∈ twL b → μ' a = μ a) (h2 : μ' 50 = μ 50) (h3 : ∀ a : Nat, 52 ≤ a → a < 72 → μ' a = μ a) (h4 : μ' 138 = μ 138) (h5 : ∀ j, j ∈ [58, 59] → μ' 96 j = μ 96 j) (hR : Rhis b μ) : Rhis b μ' := by
  simp only [List.mem_cons, List.not_mem_nil, or_false, forall_eq_or_imp, forall_eq] at h5
  obtain ⟨j58, j59⟩ := h5
  unfold Rhis at hR ⊢
  obtain ⟨r1, r2, r3, r4⟩ := hR
  rw [h2, h4, j58, j59]
  refine ⟨r1, r2, fun j j0 j1 => ?_, fun i i0 i1 => ?_⟩
  · rw [h3 _ (by omega) (by omega)]; exact r3 j j0 j1
  · rw [h3 _ (by omega) (by omega)]; exact rowR_same h (r4 i i0 i1)
theorem prc_same {b : Bool} {μ μ' : Nat → Int → Int} (h : ∀ a, a ∈ twL b → μ' a = μ a) : prc b μ' = prc b μ := by
  funext f m p t
  unfold prc
  rw [h (tw b + 7) (by simp [twL]), h (tw b + 16) (by simp [twL]), h (tw b + 17) (by simp [twL]), h (tw b + 18) (by simp [twL]), h 126 (by simp [twL])]
theorem rtM_same {b : Bool} {μ μ' : Nat → Int → Int} (h : ∀ a, a ∈ twL b → μ' a = μ a) (h2 : μ' 74 = μ 74) : rtM b μ' = rtM b μ := by
  unfold rtM
  rw [prc_same h, h2, h (tw b + 14) (by simp [twL]), h (tw b + 8) (by simp [twL]), h (tw b + 9) (by simp [twL]), h (tw b + 1) (by simp [twL])]
theorem Rsta_same {b : Bool} {μ μ' : Nat → Int → Int} (h : ∀ a, a ∈ twL b → μ' a = μ a) (h2 : ∀ a, a ∈ [44, 45, 46, 47, 74] → μ' a = μ a) (hR : Rsta b μ) : Rsta b μ' := by
  simp only [List.mem_cons, List.not_mem_nil, or_false, forall_eq_or_imp, forall_eq] at h2
  obtain ⟨a44, a45, a46, a47, a74⟩ := h2
  unfold Rsta stdR exR at hR ⊢
  rw [rtM_same h a74, a44, a45, a46, a47, a74, h (tw b + 1) (by simp [twL]), h (tw b + 10) (by simp [twL])]
  exact hR
/-- what R reads -/
def keyL (b : Bool) : List Nat := twL b ++ [0, 1, 2, 3, 44, 45, 46, 47, 50, 72, 73, 74, 76, 97, 133, 138, 141, 143]
theorem R_same {b : Bool} {μ μ' : Nat → Int → Int} (h : ∀ a, a ∈ keyL b → μ' a = μ a) (h1 : ∀ a : Nat, 52 ≤ a → a < 72 → μ' a = μ a) (h2 : ∀ a : Nat, 98 ≤ a → a ≤ 119 → μ' a = μ a) (h3 : ∀ j, j ∈ [1, 7, 8, 58, 59, 60, 67, 71] → μ' 96 j = μ 96 j) (hR : R b μ) : R b μ' := by
  obtain ⟨r1, r2, r3, r4, r5⟩ := hR
  have ht : ∀ a, a ∈ twL b → μ' a = μ a := fun a ha => h a (List.mem_append.2 (Or.inl ha))
  have hk : ∀ a, a ∈ [0, 1, 2, 3, 44, 45, 46, 47, 50, 72, 73, 74, 76, 97, 133, 138, 141, 143] → μ' a = μ a := fun a ha => h a (List.mem_append.2 (Or.inr ha))
  refine ⟨Rtw_same ht r1, ⟨?_, ?_⟩, Rhis_same ht (hk 50 (by decide)) h1 (hk 138 (by decide)) (fun j hj => h3 j ?_) r3, Rmsc_same ?_ (fun a ha => hk a ?_) (fun j hj => h3 j ?_) h2 r4, Rsta_same ht (fun a ha => hk a ?_) r5⟩
  · rw [hk 74 (by decide), hk 133 (by decide)]; exact r2.1
  · rw [hk 74 (by decide)]; exact rowR_same ht r2.2
  · simp only [List.mem_cons, List.not_mem_nil, or_false] at hj ⊢; omega
  · rw [ht (tw b + 1) (by simp [twL])]
  · simp only [List.mem_cons, List.not_mem_nil, or_false] at ha ⊢; omega
  · simp only [List.mem_cons, List.not_mem_nil, or_false] at hj ⊢; omega
  · simp only [List.mem_cons, List.not_mem_nil, or_false] at ha ⊢; omega
