/-! ===== the makers of objects: what they make, by program (tools/ctor30.py) ===== -/
def cSH : List (Nat × Nat) := [(19, 13), (14, 9), (16, 2), (0, 1600), (17, 17), (0, 4), (4, 4), (0, 12), (0, 12), (0, 12), (0, 12), (0, 12), (0, 12), (0, 12), (0, 12), (0, 6), (0, 6), (0, 6), (0, 6), (0, 1600), (0, 12), (0, 12), (0, 12), (12, 2), (0, 5), (0, 64), (18, 4), (0, 12), (0, 10), (0, 10), (15, 4), (4, 12), (0, 6), (0, 6), (0, 6), (0, 6), (0, 6), (0, 6), (0, 6), (0, 6), (0, 6), (0, 6), (0, 6), (0, 6), (13, 5), (0, 12), (13, 5), (0, 12), (13, 5), (0, 12), (10, 3), (4, 20), (0, 62), (0, 62), (0, 62), (0, 62), (0, 62), (0, 62), (0, 62), (0, 62), (0, 62), (0, 62), (0, 62), (0, 62), (0, 62), (0, 62), (0, 62), (0, 62), (0, 62), (0, 62), (0, 62), (0, 62), (11, 2), (0, 88), (0, 62), (0, 62), (0, 60), (17, 17), (0, 4), (4, 4), (0, 12), (0, 12), (0, 12), (0, 12), (0, 12), (0, 12), (0, 12), (0, 12), (0, 6), (0, 6), (0, 6), (0, 6), (0, 1600), (0, 12), (0, 12), (0, 12)]
def cM1 : List (List Int) := [[0, 0, 0, 0, 0, 0, 0, 0, 0, 0, 0, 1, 0], [0, 0, 0, -1, 0, 0, 0, 0, 0], [0, 0], [], [0, 0, 0, 0, 0, 0, 0, 0, 0, 0, 0, 0, 0, 0, 0, 0, 0], [], [], [], [], [], [], [], [], [], [], [], [], [], [], [], [], [], [], [0, 0], [], [], [0, 0, 0, 0], [], [], [], [0, 0, 0, 0], [], [], [], [], [], [], [], [], [], [], [], [], [], [0, 0, 0, 0, 0], [], [0, 0, 0, 0, 0], [], [0, 0, 0, 0, 0], [], [0, 0, 0], [], [], [], [], [], [], [], [], [], [], [], [], [], [], [], [], [], [], [], [], [], [0, 0], [], [], [], [], [0, 0, 0, 0, 0, 0, 0, 0, 0, 0, 0, 0, 0, 0, 0, 0, 0], [], [], [], [], [], [], [], [], [], [], [], [], [], [], [], [], [], []]
def cR1 : List (List (Option Nat)) := [[some 1, some 2, some 23, some 26, some 30, some 50, some 72, some 74, some 75, some 76, none, none, some 77], [some 2, some 4, none, none, none, none, none, none, none], [some 3, none], [], [none, none, some 5, some 6, some 11, some 12, some 13, some 14, some 15, some 16, some 17, some 18, some 19, none, some 20, some 21, some 22], [], [some 7, some 8, some 9, some 10], [], [], [], [], [], [], [], [], [], [], [], [], [], [], [], [], [some 24, some 25], [], [], [some 27, some 28, some 29, none], [], [], [], [some 31, some 44, some 46, some 48], [some 32, some 33, some 34, some 35, some 36, some 37, some 38, some 39, some 40, some 41, some 42, some 43], [], [], [], [], [], [], [], [], [], [], [], [], [some 45, none, none, none, none], [], [some 47, none, none, none, none], [], [some 49, none, none, none, none], [], [some 51, none, none], [some 52, some 53, some 54, some 55, some 56, some 57, some 58, some 59, some 60, some 61, some 62, some 63, some 64, some 65, some 66, some 67, some 68, some 69, some 70, some 71], [], [], [], [], [], [], [], [], [], [], [], [], [], [], [], [], [], [], [], [], [some 73, none], [], [], [], [], [none, none, some 78, some 79, some 84, some 85, some 86, some 87, some 88, some 89, some 90, some 91, some 92, none, some 93, some 94, some 95], [], [some 80, some 81, some 82, some 83], [], [], [], [], [], [], [], [], [], [], [], [], [], [], [], []]
def cM3 : List (List Int) := [[0, 0, 0, 0, 0, 0, 0, 0, 0, 0, 0, 1, 0], [0, 0, 0, -1, 0, 0, 0, 0, 0], [0, 0], [], [0, 0, 0, 0, 0, 0, 0, 0, 0, 0, 0, 0, 0, 0, 0, 0, 0], [], [], [], [], [], [], [], [], [], [], [], [], [], [], [], [], [], [], [0, 0], [], [], [0, 0, 0, 0], [], [], [], [0, 0, 0, 0], [], [], [], [], [], [], [], [], [], [], [], [], [], [0, 0, 0, 0, 0], [], [0, 0, 0, 0, 0], [], [0, 0, 0, 0, 0], [], [0, 0, 0], [], [], [], [], [], [], [], [], [], [], [], [], [], [], [], [], [], [], [], [], [], [0, 0], [], [], [], [], [0, 0, 0, 0, 0, 0, 0, 0, 0, 0, 0, 0, 0, 0, 0, 0, 0], [], [], [], [], [], [], [], [], [], [], [], [], [], [], [], [], [], [], [0, 0, 0, 0, 0, 0, 0, 0, -1, 0, 0, 0, 0, 0, 0, 0, 0, 0, 0, 0, 0, 0, 0, 0, 0, 0, 0, 0, 0, 0, 0, 0, 0, 0, 0, 0, 0, 0, 0, 0, 0, 0, 0, 0, 0, 0, 0, 0, 0, 0, 0, 0, 0, 0, 0, 0, 0, 0, 0, 0, 1, 0, 0, 0, 0, 0, 0, 0, 0, 0, 0, 0], [], [114, 111, 111, 109], [109, 97, 110], [108, 101, 116, 115], [98, 114, 105, 98, 101], [116, 105, 114, 101, 115], [103, 97, 116, 101], [98, 121], [112, 101, 114, 115, 111, 110], [97, 116], [116, 111], [99, 111, 105, 110, 115], [116, 97, 99, 116], [104, 111, 117, 114], [112, 97, 115, 115, 101, 100], [119, 104, 111], [100, 97, 121], [111, 114], [97, 110, 100], [110, 111, 116], [97, 108, 108], [109, 105, 110], [109, 97, 120], [], [], [], [], [], [], [], [], [], [], [], [], [], [], [], [], [], [], [], [], [], [], [], []]
def cR3 : List (List (Option Nat)) := [[some 1, some 2, some 23, some 26, some 30, some 50, some 72, some 74, some 75, some 76, none, none, some 77], [some 2, some 4, none, none, none, none, none, none, none], [some 3, none], [], [none, none, some 5, some 6, some 11, some 12, some 13, some 14, some 15, some 16, some 17, some 18, some 19, none, some 20, some 21, some 22], [], [some 7, some 8, some 9, some 10], [], [], [], [], [], [], [], [], [], [], [], [], [], [], [], [], [some 24, some 25], [], [], [some 27, some 28, some 29, none], [], [], [], [some 31, some 44, some 46, some 48], [some 32, some 33, some 34, some 35, some 36, some 37, some 38, some 39, some 40, some 41, some 42, some 43], [], [], [], [], [], [], [], [], [], [], [], [], [some 45, none, none, none, none], [], [some 47, none, none, none, none], [], [some 49, none, none, none, none], [], [some 51, none, none], [some 52, some 53, some 54, some 55, some 56, some 57, some 58, some 59, some 60, some 61, some 62, some 63, some 64, some 65, some 66, some 67, some 68, some 69, some 70, some 71], [], [], [], [], [], [], [], [], [], [], [], [], [], [], [], [], [], [], [], [], [some 73, none], [], [], [], [], [none, none, some 78, some 79, some 84, some 85, some 86, some 87, some 88, some 89, some 90, some 91, some 92, none, some 93, some 94, some 95], [], [some 80, some 81, some 82, some 83], [], [], [], [], [], [], [], [], [], [], [], [], [], [], [], [], [some 97, none, none, none, none, none, none, none, none, some 98, some 99, some 100, some 101, some 102, some 103, some 104, some 105, some 106, some 107, some 108, some 109, some 110, some 111, some 112, some 113, some 114, some 115, some 116, some 117, some 118, some 119, none, some 120, some 121, some 122, some 123, some 124, some 125, none, none, some 126, none, some 127, none, none, some 128, some 129, some 130, none, some 131, none, some 132, some 133, some 134, some 135, some 136, some 137, some 138, none, none, none, none, none, none, none, some 139, some 140, none, some 141, some 142, some 143, none], [], [], [], [], [], [], [], [], [], [], [], [], [], [], [], [], [], [], [], [], [], [], [], [], [], [], [], [], [], [], [], [], [], [], [], [], [], [], [], [], [], [], [], [], [], [], []]
def cC0 : cS := ([(19, 13)], [[0, 0, 0, 0, 0, 0, 0, 0, 0, 0, 0, 0, 0]], [[none, none, none, none, none, none, none, none, none, none, none, none, none]])
def cC1 : cS := (cSH, cM1, cR1)
def cC2 : cS := (cSH ++ [(20, 72)], cM1 ++ [[0, 0, 0, 0, 0, 0, 0, 0, 0, 0, 0, 0, 0, 0, 0, 0, 0, 0, 0, 0, 0, 0, 0, 0, 0, 0, 0, 0, 0, 0, 0, 0, 0, 0, 0, 0, 0, 0, 0, 0, 0, 0, 0, 0, 0, 0, 0, 0, 0, 0, 0, 0, 0, 0, 0, 0, 0, 0, 0, 0, 0, 0, 0, 0, 0, 0, 0, 0, 0, 0, 0, 0]], cR1 ++ [[none, none, none, none, none, none, none, none, none, none, none, none, none, none, none, none, none, none, none, none, none, none, none, none, none, none, none, none, none, none, none, none, none, none, none, none, none, none, none, none, none, none, none, none, none, none, none, none, none, none, none, none, none, none, none, none, none, none, none, none, none, none, none, none, none, none, none, none, none, none, none, none]])
def cC3 : cS := (SH, cM3, cR3)
theorem c_new0 : cNew ([], [], []) 19 13 = some cC0 := by decide +kernel
theorem c_run9 : cCallN 5 233 [mP 0] cC0 = some cC1 := by decide +kernel
theorem c_new1 : cNew cC1 20 72 = some cC2 := by decide +kernel
theorem c_run10 : cCallN 5 59 [mP 96] cC2 = some cC3 := by decide +kernel
theorem rhL_rhG (a n : Nat) (i : Int) : rhL ((List.range n).map (fun j => some (a + 1 + j))) i = rhG a n i := rhL_rng a n i
theorem rho_b0 (i : Int) : ∀ j : Nat, j < 12 → rhL (cR3.getD (0 + j) []) i = RHO false (0 + j) i
  | 0, _ => rfl
  | 1, _ => rfl
  | 2, _ => rfl
  | 3, _ => rhL_nil i
  | 4, _ => rfl
  | 5, _ => rhL_nil i
  | 6, _ => rhL_rhG 6 4 i
  | 7, _ => rhL_nil i
  | 8, _ => rhL_nil i
  | 9, _ => rhL_nil i
  | 10, _ => rhL_nil i
  | 11, _ => rhL_nil i
  | n + 12, h => absurd h (by omega)
theorem rho_b1 (i : Int) : ∀ j : Nat, j < 12 → rhL (cR3.getD (12 + j) []) i = RHO false (12 + j) i
  | 0, _ => rhL_nil i
  | 1, _ => rhL_nil i
  | 2, _ => rhL_nil i
  | 3, _ => rhL_nil i
  | 4, _ => rhL_nil i
  | 5, _ => rhL_nil i
  | 6, _ => rhL_nil i
  | 7, _ => rhL_nil i
  | 8, _ => rhL_nil i
  | 9, _ => rhL_nil i
  | 10, _ => rhL_nil i
  | 11, _ => rfl
  | n + 12, h => absurd h (by omega)
theorem rho_b2 (i : Int) : ∀ j : Nat, j < 12 → rhL (cR3.getD (24 + j) []) i = RHO false (24 + j) i
  | 0, _ => rhL_nil i
  | 1, _ => rhL_nil i
  | 2, _ => rfl
  | 3, _ => rhL_nil i
  | 4, _ => rhL_nil i
  | 5, _ => rhL_nil i
  | 6, _ => rfl
  | 7, _ => rhL_rhG 31 12 i
  | 8, _ => rhL_nil i
  | 9, _ => rhL_nil i
  | 10, _ => rhL_nil i
  | 11, _ => rhL_nil i
  | n + 12, h => absurd h (by omega)
theorem rho_b3 (i : Int) : ∀ j : Nat, j < 12 → rhL (cR3.getD (36 + j) []) i = RHO false (36 + j) i
  | 0, _ => rhL_nil i
  | 1, _ => rhL_nil i
  | 2, _ => rhL_nil i
  | 3, _ => rhL_nil i
  | 4, _ => rhL_nil i
  | 5, _ => rhL_nil i
  | 6, _ => rhL_nil i
  | 7, _ => rhL_nil i
  | 8, _ => rfl
  | 9, _ => rhL_nil i
  | 10, _ => rfl
  | 11, _ => rhL_nil i
  | n + 12, h => absurd h (by omega)
theorem rho_b4 (i : Int) : ∀ j : Nat, j < 12 → rhL (cR3.getD (48 + j) []) i = RHO false (48 + j) i
  | 0, _ => rfl
  | 1, _ => rhL_nil i
  | 2, _ => rfl
  | 3, _ => rhL_rhG 51 20 i
  | 4, _ => rhL_nil i
  | 5, _ => rhL_nil i
  | 6, _ => rhL_nil i
  | 7, _ => rhL_nil i
  | 8, _ => rhL_nil i
  | 9, _ => rhL_nil i
  | 10, _ => rhL_nil i
  | 11, _ => rhL_nil i
  | n + 12, h => absurd h (by omega)
theorem rho_b5 (i : Int) : ∀ j : Nat, j < 12 → rhL (cR3.getD (60 + j) []) i = RHO false (60 + j) i
  | 0, _ => rhL_nil i
  | 1, _ => rhL_nil i
  | 2, _ => rhL_nil i
  | 3, _ => rhL_nil i
  | 4, _ => rhL_nil i
  | 5, _ => rhL_nil i
  | 6, _ => rhL_nil i
  | 7, _ => rhL_nil i
  | 8, _ => rhL_nil i
  | 9, _ => rhL_nil i
  | 10, _ => rhL_nil i
  | 11, _ => rhL_nil i
  | n + 12, h => absurd h (by omega)
theorem rho_b6 (i : Int) : ∀ j : Nat, j < 12 → rhL (cR3.getD (72 + j) []) i = RHO false (72 + j) i
  | 0, _ => rfl
  | 1, _ => rhL_nil i
  | 2, _ => rhL_nil i
  | 3, _ => rhL_nil i
  | 4, _ => rhL_nil i
  | 5, _ => rfl
  | 6, _ => rhL_nil i
  | 7, _ => rhL_rhG 79 4 i
  | 8, _ => rhL_nil i
  | 9, _ => rhL_nil i
  | 10, _ => rhL_nil i
  | 11, _ => rhL_nil i
  | n + 12, h => absurd h (by omega)
theorem rho_b7 (i : Int) : ∀ j : Nat, j < 12 → rhL (cR3.getD (84 + j) []) i = RHO false (84 + j) i
  | 0, _ => rhL_nil i
  | 1, _ => rhL_nil i
  | 2, _ => rhL_nil i
  | 3, _ => rhL_nil i
  | 4, _ => rhL_nil i
  | 5, _ => rhL_nil i
  | 6, _ => rhL_nil i
  | 7, _ => rhL_nil i
  | 8, _ => rhL_nil i
  | 9, _ => rhL_nil i
  | 10, _ => rhL_nil i
  | 11, _ => rhL_nil i
  | n + 12, h => absurd h (by omega)
theorem rho_b8 (i : Int) : ∀ j : Nat, j < 12 → rhL (cR3.getD (96 + j) []) i = RHO false (96 + j) i
  | 0, _ => rfl
  | 1, _ => rhL_nil i
  | 2, _ => rhL_nil i
  | 3, _ => rhL_nil i
  | 4, _ => rhL_nil i
  | 5, _ => rhL_nil i
  | 6, _ => rhL_nil i
  | 7, _ => rhL_nil i
  | 8, _ => rhL_nil i
  | 9, _ => rhL_nil i
  | 10, _ => rhL_nil i
  | 11, _ => rhL_nil i
  | n + 12, h => absurd h (by omega)
theorem rho_b9 (i : Int) : ∀ j : Nat, j < 12 → rhL (cR3.getD (108 + j) []) i = RHO false (108 + j) i
  | 0, _ => rhL_nil i
  | 1, _ => rhL_nil i
  | 2, _ => rhL_nil i
  | 3, _ => rhL_nil i
  | 4, _ => rhL_nil i
  | 5, _ => rhL_nil i
  | 6, _ => rhL_nil i
  | 7, _ => rhL_nil i
  | 8, _ => rhL_nil i
  | 9, _ => rhL_nil i
  | 10, _ => rhL_nil i
  | 11, _ => rhL_nil i
  | n + 12, h => absurd h (by omega)
theorem rho_b10 (i : Int) : ∀ j : Nat, j < 12 → rhL (cR3.getD (120 + j) []) i = RHO false (120 + j) i
  | 0, _ => rhL_nil i
  | 1, _ => rhL_nil i
  | 2, _ => rhL_nil i
  | 3, _ => rhL_nil i
  | 4, _ => rhL_nil i
  | 5, _ => rhL_nil i
  | 6, _ => rhL_nil i
  | 7, _ => rhL_nil i
  | 8, _ => rhL_nil i
  | 9, _ => rhL_nil i
  | 10, _ => rhL_nil i
  | 11, _ => rhL_nil i
  | n + 12, h => absurd h (by omega)
theorem rho_b11 (i : Int) : ∀ j : Nat, j < 12 → rhL (cR3.getD (132 + j) []) i = RHO false (132 + j) i
  | 0, _ => rhL_nil i
  | 1, _ => rhL_nil i
  | 2, _ => rhL_nil i
  | 3, _ => rhL_nil i
  | 4, _ => rhL_nil i
  | 5, _ => rhL_nil i
  | 6, _ => rhL_nil i
  | 7, _ => rhL_nil i
  | 8, _ => rhL_nil i
  | 9, _ => rhL_nil i
  | 10, _ => rhL_nil i
  | 11, _ => rhL_nil i
  | n + 12, h => absurd h (by omega)
theorem rho_big {a : Nat} (h : 144 ≤ a) (i : Int) : RHO false a i = none := by
  have f : ∀ k, k ≤ 144 → Nat.blt a k = false := fun k hk => by
    cases e : Nat.blt a k
    · rfl
    · exact absurd (blt_lt e) (by omega)
  have g : Nat.beq a 96 = false := by
    cases e : Nat.beq a 96
    · rfl
    · exact absurd (Nat.eq_of_beq_eq_true e) (by omega)
  unfold RHO
  dsimp only
  rw [f 44 (by decide), cnd_f, f 51 (by decide), cnd_f, f 77 (by decide), cnd_f, f 79 (by decide), cnd_f, f 96 (by decide), cnd_f, g, cnd_f]
theorem rho_fin : (fun (a : Nat) (i : Int) => rhL (cR3.getD a []) i) = RHO false := by
  funext a i
  by_cases h : 144 ≤ a
  · rw [rho_big h, List.getD_eq_getElem?_getD, List.getElem?_eq_none (Nat.le_trans (by decide +kernel) h)]
    exact rhL_nil i
  by_cases h0 : a < 12
  · obtain ⟨j, rfl⟩ : ∃ j, a = 0 + j := ⟨a - 0, by omega⟩
    exact rho_b0 i j (by omega)
  by_cases h1 : a < 24
  · obtain ⟨j, rfl⟩ : ∃ j, a = 12 + j := ⟨a - 12, by omega⟩
    exact rho_b1 i j (by omega)
  by_cases h2 : a < 36
  · obtain ⟨j, rfl⟩ : ∃ j, a = 24 + j := ⟨a - 24, by omega⟩
    exact rho_b2 i j (by omega)
  by_cases h3 : a < 48
  · obtain ⟨j, rfl⟩ : ∃ j, a = 36 + j := ⟨a - 36, by omega⟩
    exact rho_b3 i j (by omega)
  by_cases h4 : a < 60
  · obtain ⟨j, rfl⟩ : ∃ j, a = 48 + j := ⟨a - 48, by omega⟩
    exact rho_b4 i j (by omega)
  by_cases h5 : a < 72
  · obtain ⟨j, rfl⟩ : ∃ j, a = 60 + j := ⟨a - 60, by omega⟩
    exact rho_b5 i j (by omega)
  by_cases h6 : a < 84
  · obtain ⟨j, rfl⟩ : ∃ j, a = 72 + j := ⟨a - 72, by omega⟩
    exact rho_b6 i j (by omega)
  by_cases h7 : a < 96
  · obtain ⟨j, rfl⟩ : ∃ j, a = 84 + j := ⟨a - 84, by omega⟩
    exact rho_b7 i j (by omega)
  by_cases h8 : a < 108
  · obtain ⟨j, rfl⟩ : ∃ j, a = 96 + j := ⟨a - 96, by omega⟩
    exact rho_b8 i j (by omega)
  by_cases h9 : a < 120
  · obtain ⟨j, rfl⟩ : ∃ j, a = 108 + j := ⟨a - 108, by omega⟩
    exact rho_b9 i j (by omega)
  by_cases h10 : a < 132
  · obtain ⟨j, rfl⟩ : ∃ j, a = 120 + j := ⟨a - 120, by omega⟩
    exact rho_b10 i j (by omega)
  obtain ⟨j, rfl⟩ : ∃ j, a = 132 + j := ⟨a - 132, by omega⟩
  exact rho_b11 i j (by omega)
theorem c_fin : cMem cC3 = (SH, (fun (a : Nat) (i : Int) => nuL (cM3.getD a []) i), RHO false) := by
  rw [← rho_fin]
  rfl
