/-! ===== the makers of objects, run over lists: memory as three lists ===== -/
abbrev cS : Type := List (Nat × Nat) × List (List Int) × List (List (Option Nat))
def nuL (l : List Int) (i : Int) : Int := match i with
  | Int.ofNat k => l.getD k 0
  | Int.negSucc _ => 0
def cMem (S : cS) : mMem := (S.1, (fun a i => nuL (S.2.1.getD a []) i, fun a i => rhL (S.2.2.getD a []) i))
theorem nuL_nil (i : Int) : nuL [] i = 0 := by cases i <;> rfl
theorem rhL_nil (i : Int) : rhL [] i = none := by cases i <;> rfl
theorem nuL_rep (n : Nat) (i : Int) : nuL (List.replicate n 0) i = 0 := by
  cases i with
  | ofNat k =>
    show (List.replicate n (0 : Int)).getD k 0 = 0
    rw [List.getD_eq_getElem?_getD, List.getElem?_replicate]
    split <;> rfl
  | negSucc k => rfl
theorem rhL_rep (n : Nat) (i : Int) : rhL (List.replicate n none) i = none := by
  cases i with
  | ofNat k =>
    show (List.replicate n (none : Option Nat)).getD k none = none
    rw [List.getD_eq_getElem?_getD, List.getElem?_replicate]
    split <;> rfl
  | negSucc k => rfl
theorem neg_ne (j k : Nat) : Int.negSucc j ≠ (k : Int) := fun h => by
  have := Int.negSucc_lt_zero j
  omega
theorem nuL_set {l : List Int} {k : Nat} (hk : k < l.length) (v i : Int) : nuL (l.set k v) i = if i = (k : Int) then v else nuL l i := by
  cases i with
  | ofNat j =>
    show (l.set k v).getD j 0 = if Int.ofNat j = (k : Int) then v else l.getD j 0
    rw [List.getD_eq_getElem?_getD, List.getElem?_set, List.getD_eq_getElem?_getD]
    by_cases e : k = j
    · subst e
      rw [if_pos rfl, if_pos hk]
      exact (if_pos (show Int.ofNat k = (k : Int) from rfl)).symm
    · rw [if_neg e]
      exact (if_neg (show ¬ Int.ofNat j = (k : Int) from fun q => e (Int.ofNat.inj q).symm)).symm
  | negSucc j => rw [if_neg (neg_ne j k)]; rfl
theorem rhL_set {l : List (Option Nat)} {k : Nat} (hk : k < l.length) (v : Option Nat) (i : Int) : rhL (l.set k v) i = if i = (k : Int) then v else rhL l i := by
  cases i with
  | ofNat j =>
    show (l.set k v).getD j none = if Int.ofNat j = (k : Int) then v else l.getD j none
    rw [List.getD_eq_getElem?_getD, List.getElem?_set, List.getD_eq_getElem?_getD]
    by_cases e : k = j
    · subst e
      rw [if_pos rfl, if_pos hk]
      exact (if_pos (show Int.ofNat k = (k : Int) from rfl)).symm
    · rw [if_neg e]
      exact (if_neg (show ¬ Int.ofNat j = (k : Int) from fun q => e (Int.ofNat.inj q).symm)).symm
  | negSucc j => rw [if_neg (neg_ne j k)]; rfl
theorem rhL_rng (a n : Nat) (i : Int) : rhL ((List.range n).map (fun j => some (a + 1 + j))) i = if 0 ≤ i ∧ i < (n : Int) then some (a + 1 + i.toNat) else none := by
  cases i with
  | ofNat j =>
    show ((List.range n).map (fun j => some (a + 1 + j))).getD j none = _
    rw [List.getD_eq_getElem?_getD, List.getElem?_map]
    by_cases e : j < n
    · rw [List.getElem?_range e, if_pos ⟨Int.natCast_nonneg j, Int.ofNat_lt.mpr e⟩]
      rfl
    · rw [List.getElem?_eq_none (by simp; omega), if_neg (fun q => e (Int.ofNat_lt.mp q.2))]
      rfl
  | negSucc j =>
    rw [if_neg (fun q => absurd q.1 (by have := Int.negSucc_lt_zero j; omega))]
    rfl
theorem getD_app {α : Type} (L : List α) (x d : α) (a : Nat) : (L ++ [x]).getD a d = if a = L.length then x else L.getD a d := by
  rw [List.getD_eq_getElem?_getD, List.getD_eq_getElem?_getD, List.getElem?_append]
  by_cases h : a < L.length
  · rw [if_pos h, if_neg (by omega)]
  · rw [if_neg h]
    by_cases e : a = L.length
    · subst e
      rw [if_pos rfl, Nat.sub_self]
      rfl
    · rw [if_neg e, List.getElem?_eq_none (by simp; omega), List.getElem?_eq_none (by omega)]
theorem getD_set {α : Type} {L : List α} {k : Nat} (hk : k < L.length) (x d : α) (a : Nat) : (L.set k x).getD a d = if a = k then x else L.getD a d := by
  rw [List.getD_eq_getElem?_getD, List.getElem?_set, List.getD_eq_getElem?_getD]
  by_cases e : k = a
  · subst e
    rw [if_pos rfl, if_pos hk, if_pos rfl]
    rfl
  · rw [if_neg e, if_neg (fun q => e q.symm)]
theorem c_cond {α : Type} {c : Bool} {a : Option α} {x : α} (h : (bif c then a else none) = some x) : c = true ∧ a = some x := by
  cases c
  · cases h
  · exact ⟨rfl, h⟩
/-! a cell more -/
def cRowM (kd n : Nat) : List Int := bif Nat.blt 9 kd || Nat.beq kd 2 then List.replicate n 0 else []
def cRowR (kd n : Nat) : List (Option Nat) := bif Nat.blt 9 kd then List.replicate n none else []
def cLen (S : cS) : Bool := Nat.beq S.2.1.length S.1.length && Nat.beq S.2.2.length S.1.length
def cNew (S : cS) (kd n : Nat) : Option cS := bif cLen S then some (S.1 ++ [(kd, n)], S.2.1 ++ [cRowM kd n], S.2.2 ++ [cRowR kd n]) else none
theorem cRowM_0 (kd n : Nat) (i : Int) : nuL (cRowM kd n) i = 0 := by
  unfold cRowM
  cases Nat.blt 9 kd || Nat.beq kd 2
  · exact nuL_nil i
  · exact nuL_rep n i
theorem cRowR_0 (kd n : Nat) (i : Int) : rhL (cRowR kd n) i = none := by
  unfold cRowR
  cases Nat.blt 9 kd
  · exact rhL_nil i
  · exact rhL_rep n i
theorem cNew_ok {S S' : cS} {kd n : Nat} (h : cNew S kd n = some S') : cMem S' = mNew (cMem S) kd n := by
  unfold cNew at h
  obtain ⟨q, h⟩ := c_cond h
  cases h
  unfold cLen at q
  rw [Bool.and_eq_true] at q
  have q1 : S.2.1.length = S.1.length := Nat.eq_of_beq_eq_true q.1
  have q2 : S.2.2.length = S.1.length := Nat.eq_of_beq_eq_true q.2
  have e1 : (fun (a : Nat) (i : Int) => nuL ((S.2.1 ++ [cRowM kd n]).getD a []) i) = m1 (fun a i => nuL (S.2.1.getD a []) i) S.1.length (fun _ => 0) := by
    funext a i
    unfold m1
    rw [getD_app, q1]
    by_cases e : a = S.1.length
    · rw [if_pos e, if_pos e]; exact cRowM_0 kd n i
    · rw [if_neg e, if_neg e]
  have e2 : (fun (a : Nat) (i : Int) => rhL ((S.2.2 ++ [cRowR kd n]).getD a []) i) = m1 (fun a i => rhL (S.2.2.getD a []) i) S.1.length (fun _ => none) := by
    funext a i
    unfold m1
    rw [getD_app, q2]
    by_cases e : a = S.1.length
    · rw [if_pos e, if_pos e]; exact cRowR_0 kd n i
    · rw [if_neg e, if_neg e]
  unfold cMem mNew
  dsimp only
  rw [e1, e2]
def cNews (S : cS) (kd n : Nat) : Nat → Option cS
  | 0 => some S
  | c + 1 => match cNews S kd n c with
    | some S1 => cNew S1 kd n
    | none => none
theorem cNews_ok {S : cS} {kd n : Nat} : ∀ (c : Nat) {S' : cS}, cNews S kd n c = some S' → cMem S' = mNews (cMem S) kd n c
  | 0, S', h => by cases h; rfl
  | c + 1, S', h => by
    unfold cNews at h
    cases e : cNews S kd n c with
    | none => rw [e] at h; cases h
    | some S1 =>
      rw [e] at h
      rw [cNew_ok h, cNews_ok c e]
      rfl
/-! a place anew -/
def cSetM (S : cS) (a k : Nat) (v : Int) : Option cS := bif Nat.blt a S.2.1.length && Nat.blt k (S.2.1.getD a []).length then some (S.1, S.2.1.set a ((S.2.1.getD a []).set k v), S.2.2) else none
def cSetR (S : cS) (a k : Nat) (v : Option Nat) : Option cS := bif Nat.blt a S.2.2.length && Nat.blt k (S.2.2.getD a []).length then some (S.1, S.2.1, S.2.2.set a ((S.2.2.getD a []).set k v)) else none
def cSetA (S : cS) (a : Nat) (l : List (Option Nat)) : Option cS := bif Nat.blt a S.2.2.length then some (S.1, S.2.1, S.2.2.set a l) else none
theorem blt_lt {a b : Nat} (h : Nat.blt a b = true) : a < b := Nat.le_of_ble_eq_true h
theorem cSetM_ok {S S' : cS} {a k : Nat} {v : Int} (h : cSetM S a k v = some S') : cMem S' = ((cMem S).1, m2 (cMem S).2.1 a (k : Int) v, (cMem S).2.2) := by
  unfold cSetM at h
  obtain ⟨q, h⟩ := c_cond h
  cases h
  rw [Bool.and_eq_true] at q
  have e1 : (fun (a' : Nat) (i : Int) => nuL ((S.2.1.set a ((S.2.1.getD a []).set k v)).getD a' []) i) = m2 (fun a i => nuL (S.2.1.getD a []) i) a (k : Int) v := by
    funext a' i
    rw [getD_set (blt_lt q.1)]
    by_cases e : a' = a
    · subst e
      rw [if_pos rfl, nuL_set (blt_lt q.2), m2_at]
    · rw [if_neg e, m2_ne e]
  unfold cMem
  dsimp only
  rw [e1]
theorem cSetR_ok {S S' : cS} {a k : Nat} {v : Option Nat} (h : cSetR S a k v = some S') : cMem S' = ((cMem S).1, (cMem S).2.1, m2 (cMem S).2.2 a (k : Int) v) := by
  unfold cSetR at h
  obtain ⟨q, h⟩ := c_cond h
  cases h
  rw [Bool.and_eq_true] at q
  have e1 : (fun (a' : Nat) (i : Int) => rhL ((S.2.2.set a ((S.2.2.getD a []).set k v)).getD a' []) i) = m2 (fun a i => rhL (S.2.2.getD a []) i) a (k : Int) v := by
    funext a' i
    rw [getD_set (blt_lt q.1)]
    by_cases e : a' = a
    · subst e
      rw [if_pos rfl, rhL_set (blt_lt q.2), m2_at]
    · rw [if_neg e, m2_ne e]
  unfold cMem
  dsimp only
  rw [e1]
theorem cSetA_ok {S S' : cS} {a : Nat} {l : List (Option Nat)} (h : cSetA S a l = some S') : cMem S' = ((cMem S).1, (cMem S).2.1, m1 (cMem S).2.2 a (rhL l)) := by
  unfold cSetA at h
  obtain ⟨q, h⟩ := c_cond h
  cases h
  have e1 : (fun (a' : Nat) (i : Int) => rhL ((S.2.2.set a l).getD a' []) i) = m1 (fun a i => rhL (S.2.2.getD a []) i) a (rhL l) := by
    funext a' i
    rw [getD_set (blt_lt q)]
    by_cases e : a' = a
    · subst e
      rw [if_pos rfl, m1_at]
    · rw [if_neg e, m1_ne e]
  unfold cMem
  dsimp only
  rw [e1]
def cMulti (S : cS) (n k : Nat) : Option cS := match cNew S 4 n with
  | none => none
  | some S1 => match cNews S1 0 k n with
    | none => none
    | some S2 => cSetA S2 S.1.length ((List.range n).map (fun j => some (S.1.length + 1 + j)))
theorem cMulti_ok {S S' : cS} {n k : Nat} (h : cMulti S n k = some S') : cMem S' = mMulti (cMem S) n k := by
  unfold cMulti at h
  cases e1 : cNew S 4 n with
  | none => rw [e1] at h; cases h
  | some S1 =>
    rw [e1] at h
    dsimp only at h
    cases e2 : cNews S1 0 k n with
    | none => rw [e2] at h; cases h
    | some S2 =>
      rw [e2] at h
      unfold mMulti
      rw [← cNew_ok e1, ← cNews_ok n e2, cSetA_ok h]
      have e3 : rhL ((List.range n).map (fun j => some (S.1.length + 1 + j))) = fun j : Int => if 0 ≤ j ∧ j < (n : Int) then some (S.1.length + 1 + j.toNat) else none := funext fun i => rhL_rng S.1.length n i
      rw [e3]
      rfl
