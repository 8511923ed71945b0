/-! ===== what holds of my machine whatever the code is: one going on a step, more is no less, shapes grow, calls by depth ===== -/
def mLe (Φ Ψ : mOrc) : Prop := ∀ z as M r, Φ z as M = some r → Ψ z as M = some r
def mSl (M : mMem) : Nat := (M.1.map (fun q => q.2)).sum
def mGrows (Φ : mOrc) : Prop := ∀ z as M x, Φ z as M = some x → M.1.length ≤ x.2.1.length ∧ mSl M ≤ mSl x.2
abbrev mGo : Type := Nat → mLs → List mV → mMem → mRes
/-- stuck; an end; or one going on, to a memory with T -/
def mSh (Φ : mOrc) (M : mMem) (T : mMem → Prop) (F : mOrc → mGo → mRes) : Prop :=
  (∀ go, F Φ go = none) ∨ (∃ v, ∀ Ψ go, F Ψ go = some (v, M)) ∨ (∃ pc ls st N, (∀ Ψ go, mLe Φ Ψ → F Ψ go = go pc ls st N) ∧ T N)
section Sh
variable {Φ : mOrc} {M : mMem} {T : mMem → Prop} {st : List mV} {ls : mLs}
theorem sh_none : mSh Φ M T (fun _ _ => none) := Or.inl fun _ => rfl
theorem sh_ret {v : Int} : mSh Φ M T (fun _ _ => some (v, M)) := Or.inr (Or.inl ⟨v, fun _ _ => rfl⟩)
theorem sh_go {pc : Nat} {ls : mLs} {st : List mV} {N : mMem} (h : T N) : mSh Φ M T (fun _ go => go pc ls st N) := Or.inr (Or.inr ⟨pc, ls, st, N, fun _ _ _ => rfl, h⟩)
theorem sh_ite {c : Prop} [Decidable c] {f g : mOrc → mGo → mRes} (h1 : c → mSh Φ M T f) (h2 : ¬ c → mSh Φ M T g) : mSh Φ M T (fun Ψ go => if c then f Ψ go else g Ψ go) := by
  by_cases hc : c
  · simp only [if_pos hc]; exact h1 hc
  · simp only [if_neg hc]; exact h2 hc
theorem sh_br {c : Prop} [Decidable c] {f g : mOrc → mGo → mRes} (h1 : c → mSh Φ M T f) (h2 : ¬ c → mSh Φ M T g) : mSh Φ M T (fun Ψ go => mBr c (f Ψ go) (g Ψ go)) := sh_ite h1 h2
theorem sh_cond {c : Bool} {f g : mOrc → mGo → mRes} (h1 : c = true → mSh Φ M T f) (h2 : c = false → mSh Φ M T g) : mSh Φ M T (fun Ψ go => bif c then f Ψ go else g Ψ go) := by
  cases hc : c
  · exact h2 hc
  · exact h1 hc
theorem sh_I1 {g : Int → List mV → mOrc → mGo → mRes} (h : ∀ a r, mSh Φ M T (g a r)) : mSh Φ M T (fun Ψ go => mI1 st (fun a r => g a r Ψ go)) := by
  match st with
  | Sum.inl a :: r => exact h a r
  | Sum.inr _ :: _ => exact sh_none
  | [] => exact sh_none
theorem sh_I2 {g : Int → Int → List mV → mOrc → mGo → mRes} (h : ∀ a b r, mSh Φ M T (g a b r)) : mSh Φ M T (fun Ψ go => mI2 st (fun a b r => g a b r Ψ go)) := by
  match st with
  | Sum.inl b :: Sum.inl a :: r => exact h a b r
  | Sum.inl _ :: Sum.inr _ :: _ => exact sh_none
  | [Sum.inl _] => exact sh_none
  | Sum.inr _ :: _ => exact sh_none
  | [] => exact sh_none
theorem sh_J1 {g : Int → List mV → mOrc → mGo → mRes} (h : ∀ a r, mSh Φ M T (g a r)) : mSh Φ M T (fun Ψ go => mJ1 st (fun a r => g a r Ψ go)) := by
  match st with
  | Sum.inr (Sum.inl a) :: r => exact h a r
  | Sum.inr (Sum.inr _) :: _ => exact sh_none
  | Sum.inl _ :: _ => exact sh_none
  | [] => exact sh_none
theorem sh_J2 {g : Int → Int → List mV → mOrc → mGo → mRes} (h : ∀ a b r, mSh Φ M T (g a b r)) : mSh Φ M T (fun Ψ go => mJ2 st (fun a b r => g a b r Ψ go)) := by
  match st with
  | Sum.inr (Sum.inl b) :: Sum.inr (Sum.inl a) :: r => exact h a b r
  | Sum.inr (Sum.inl _) :: Sum.inr (Sum.inr _) :: _ => exact sh_none
  | Sum.inr (Sum.inl _) :: Sum.inl _ :: _ => exact sh_none
  | [Sum.inr (Sum.inl _)] => exact sh_none
  | Sum.inr (Sum.inr _) :: _ => exact sh_none
  | Sum.inl _ :: _ => exact sh_none
  | [] => exact sh_none
theorem sh_R1 {g : Nat → List mV → mOrc → mGo → mRes} (h : ∀ a r, mSh Φ M T (g a r)) : mSh Φ M T (fun Ψ go => mR1 st (fun a r => g a r Ψ go)) := by
  match st with
  | Sum.inr (Sum.inr (some a)) :: r => exact h a r
  | Sum.inr (Sum.inr none) :: _ => exact sh_none
  | Sum.inr (Sum.inl _) :: _ => exact sh_none
  | Sum.inl _ :: _ => exact sh_none
  | [] => exact sh_none
theorem sh_IR {g : Int → Nat → List mV → mOrc → mGo → mRes} (h : ∀ i a r, mSh Φ M T (g i a r)) : mSh Φ M T (fun Ψ go => mIR st (fun i a r => g i a r Ψ go)) := by
  match st with
  | Sum.inl i :: Sum.inr (Sum.inr (some a)) :: r => exact h i a r
  | Sum.inl _ :: Sum.inr (Sum.inr none) :: _ => exact sh_none
  | Sum.inl _ :: Sum.inr (Sum.inl _) :: _ => exact sh_none
  | Sum.inl _ :: Sum.inl _ :: _ => exact sh_none
  | [Sum.inl _] => exact sh_none
  | Sum.inr _ :: _ => exact sh_none
  | [] => exact sh_none
theorem sh_RR {g : mV → Nat → List mV → mOrc → mGo → mRes} (h : ∀ i a r, mSh Φ M T (g i a r)) : mSh Φ M T (fun Ψ go => mRR st (fun i a r => g i a r Ψ go)) := by
  match st with
  | v :: Sum.inr (Sum.inr (some a)) :: r => exact h v a r
  | _ :: Sum.inr (Sum.inr none) :: _ => exact sh_none
  | _ :: Sum.inr (Sum.inl _) :: _ => exact sh_none
  | _ :: Sum.inl _ :: _ => exact sh_none
  | [_] => exact sh_none
  | [] => exact sh_none
theorem sh_IIR {g : Int → Int → Nat → List mV → mOrc → mGo → mRes} (h : ∀ x i a r, mSh Φ M T (g x i a r)) : mSh Φ M T (fun Ψ go => mIIR st (fun x i a r => g x i a r Ψ go)) := by
  match st with
  | Sum.inl x :: Sum.inl i :: Sum.inr (Sum.inr (some a)) :: r => exact h x i a r
  | Sum.inl _ :: Sum.inl _ :: Sum.inr (Sum.inr none) :: _ => exact sh_none
  | Sum.inl _ :: Sum.inl _ :: Sum.inr (Sum.inl _) :: _ => exact sh_none
  | Sum.inl _ :: Sum.inl _ :: Sum.inl _ :: _ => exact sh_none
  | [Sum.inl _, Sum.inl _] => exact sh_none
  | Sum.inl _ :: Sum.inr _ :: _ => exact sh_none
  | [Sum.inl _] => exact sh_none
  | Sum.inr _ :: _ => exact sh_none
  | [] => exact sh_none
theorem sh_JIR {g : Int → Int → Nat → List mV → mOrc → mGo → mRes} (h : ∀ x i a r, mSh Φ M T (g x i a r)) : mSh Φ M T (fun Ψ go => mJIR st (fun x i a r => g x i a r Ψ go)) := by
  match st with
  | Sum.inr (Sum.inl x) :: Sum.inl i :: Sum.inr (Sum.inr (some a)) :: r => exact h x i a r
  | Sum.inr (Sum.inl _) :: Sum.inl _ :: Sum.inr (Sum.inr none) :: _ => exact sh_none
  | Sum.inr (Sum.inl _) :: Sum.inl _ :: Sum.inr (Sum.inl _) :: _ => exact sh_none
  | Sum.inr (Sum.inl _) :: Sum.inl _ :: Sum.inl _ :: _ => exact sh_none
  | [Sum.inr (Sum.inl _), Sum.inl _] => exact sh_none
  | Sum.inr (Sum.inl _) :: Sum.inr _ :: _ => exact sh_none
  | [Sum.inr (Sum.inl _)] => exact sh_none
  | Sum.inr (Sum.inr _) :: _ => exact sh_none
  | Sum.inl _ :: _ => exact sh_none
  | [] => exact sh_none
theorem sh_Ld {i : Nat} {g : mV → mOrc → mGo → mRes} (h : ∀ v, mSh Φ M T (g v)) : mSh Φ M T (fun Ψ go => mLd ls i (fun v => g v Ψ go)) := by
  unfold mLd
  match ls[i]? with
  | some (some v) => exact h v
  | some none => exact sh_none
  | none => exact sh_none
theorem sh_Load {t i : Nat} {g : List mV → mOrc → mGo → mRes} (h : ∀ st, mSh Φ M T (g st)) : mSh Φ M T (fun Ψ go => mLoad t ls st i (fun st => g st Ψ go)) :=
  sh_Ld (g := fun v Ψ go => bif Nat.beq (mIs v) t then g (v :: st) Ψ go else none) fun _ => sh_cond (fun _ => h _) (fun _ => sh_none)
theorem sh_Store {t i : Nat} {g : mLs → List mV → mOrc → mGo → mRes} (h : ∀ ls st, mSh Φ M T (g ls st)) : mSh Φ M T (fun Ψ go => mStore t ls st i (fun ls st => g ls st Ψ go)) := by
  match st with
  | v :: r => exact sh_cond (fun _ => h _ _) (fun _ => sh_none)
  | [] => exact sh_none
theorem sh_StoreJ {i : Nat} {g : mLs → List mV → mOrc → mGo → mRes} (h : ∀ ls st, mSh Φ M T (g ls st)) : mSh Φ M T (fun Ψ go => mStoreJ ls st i (fun ls st => g ls st Ψ go)) := by
  match st with
  | v :: r => exact sh_cond (fun _ => h _ _) (fun _ => sh_none)
  | [] => exact sh_none
theorem sh_Opt {x : Option Nat} {g : Nat → mOrc → mGo → mRes} (h : ∀ a, mSh Φ M T (g a)) : mSh Φ M T (fun Ψ go => mOpt x (fun a => g a Ψ go)) := by
  match x with
  | some a => exact h a
  | none => exact sh_none
theorem sh_Take {g : List mV → List mV → mOrc → mGo → mRes} (h : ∀ as r, mSh Φ M T (g as r)) : ∀ (n : Nat) (st acc : List mV), mSh Φ M T (fun Ψ go => mTake n st acc (fun as r => g as r Ψ go))
  | 0, st, acc => h acc st
  | n + 1, v :: r, acc => sh_Take h n r (v :: acc)
  | _ + 1, [], _ => sh_none
theorem sh_Sw {x : Int} {d : Nat} {g : Nat → mOrc → mGo → mRes} (h : ∀ t, mSh Φ M T (g t)) : ∀ sw : List (Int × Nat), mSh Φ M T (fun Ψ go => mSw x sw d (fun t => g t Ψ go))
  | [] => h d
  | (v, t) :: r => sh_ite (fun _ => h t) (fun _ => sh_Sw h r)
theorem sh_PutF {a k kd : Nat} {v : mV} {g : mMem → mOrc → mGo → mRes} (h1 : ∀ mu, mSh Φ M T (g (M.1, mu, M.2.2))) (h2 : kd = 2 → ∀ rh, mSh Φ M T (g (M.1, M.2.1, rh))) : mSh Φ M T (fun Ψ go => mPutF M a k kd v (fun M => g M Ψ go)) := by
  match v with
  | Sum.inl x =>
    match kd with
    | 0 => exact h1 _
    | 1 => exact sh_none
    | 2 => exact sh_none
    | 3 => exact sh_ite (fun _ => h1 _) (fun _ => sh_none)
    | _ + 4 => exact sh_none
  | Sum.inr (Sum.inl x) => exact sh_cond (fun _ => h1 _) (fun _ => sh_none)
  | Sum.inr (Sum.inr x) => exact sh_cond (fun e => h2 (Nat.eq_of_beq_eq_true e) _) (fun _ => sh_none)
theorem sh_Copy {g : List mV → mMem → mOrc → mGo → mRes} (h : ∀ r mu, mSh Φ M T (g r (M.1, mu, M.2.2))) : mSh Φ M T (fun Ψ go => mCopy st M (fun r N => g r N Ψ go)) := by
  match st with
  | Sum.inl n :: Sum.inl dp :: Sum.inr (Sum.inr (some d)) :: Sum.inl sp :: Sum.inr (Sum.inr (some s)) :: r => exact sh_cond (fun _ => sh_ite (fun _ => h _ _) (fun _ => sh_none)) (fun _ => sh_none)
  | [] => exact sh_none
  | Sum.inr _ :: _ => exact sh_none
  | [Sum.inl _] => exact sh_none
  | Sum.inl _ :: Sum.inr _ :: _ => exact sh_none
  | [Sum.inl _, Sum.inl _] => exact sh_none
  | Sum.inl _ :: Sum.inl _ :: Sum.inl _ :: _ => exact sh_none
  | Sum.inl _ :: Sum.inl _ :: Sum.inr (Sum.inl _) :: _ => exact sh_none
  | Sum.inl _ :: Sum.inl _ :: Sum.inr (Sum.inr none) :: _ => exact sh_none
  | [Sum.inl _, Sum.inl _, Sum.inr (Sum.inr (some _))] => exact sh_none
  | Sum.inl _ :: Sum.inl _ :: Sum.inr (Sum.inr (some _)) :: Sum.inr _ :: _ => exact sh_none
  | [Sum.inl _, Sum.inl _, Sum.inr (Sum.inr (some _)), Sum.inl _] => exact sh_none
  | Sum.inl _ :: Sum.inl _ :: Sum.inr (Sum.inr (some _)) :: Sum.inl _ :: Sum.inl _ :: _ => exact sh_none
  | Sum.inl _ :: Sum.inl _ :: Sum.inr (Sum.inr (some _)) :: Sum.inl _ :: Sum.inr (Sum.inl _) :: _ => exact sh_none
  | Sum.inl _ :: Sum.inl _ :: Sum.inr (Sum.inr (some _)) :: Sum.inl _ :: Sum.inr (Sum.inr none) :: _ => exact sh_none
theorem sh_Call {z : Int} {y pc : Nat} {as r : List mV} (hq : ∀ mu, (z = 0 ∨ z = 1 ∨ z = 2) → T (M.1, mu, M.2.2)) (hg : ∀ x, Φ y as M = some x → (z = 10 ∨ z = 11 ∨ z = 12) → T x.2) :
    mSh Φ M T (fun Ψ go => mCall z M (Ψ y as M) (fun st N => go pc ls (st ++ r) N)) := by
  cases hx : Φ y as M with
  | none => exact Or.inl fun go => by simp only [hx, mCall, mOptR]
  | some x =>
    unfold mCall
    split
    · exact Or.inr (Or.inr ⟨pc, ls, [] ++ r, (M.1, x.2.2.1, M.2.2), fun Ψ go h => by dsimp only; rw [h _ _ _ _ hx]; rfl, hq _ (by simp)⟩)
    · exact Or.inr (Or.inr ⟨pc, ls, [mI x.1] ++ r, (M.1, x.2.2.1, M.2.2), fun Ψ go h => by dsimp only; rw [h _ _ _ _ hx]; rfl, hq _ (by simp)⟩)
    · exact Or.inr (Or.inr ⟨pc, ls, [mJ x.1] ++ r, (M.1, x.2.2.1, M.2.2), fun Ψ go h => by dsimp only; rw [h _ _ _ _ hx]; rfl, hq _ (by simp)⟩)
    · exact Or.inr (Or.inr ⟨pc, ls, [] ++ r, x.2, fun Ψ go h => by dsimp only; rw [h _ _ _ _ hx]; rfl, hg x hx (by simp)⟩)
    · exact Or.inr (Or.inr ⟨pc, ls, [mI x.1] ++ r, x.2, fun Ψ go h => by dsimp only; rw [h _ _ _ _ hx]; rfl, hg x hx (by simp)⟩)
    · exact Or.inr (Or.inr ⟨pc, ls, [mJ x.1] ++ r, x.2, fun Ψ go h => by dsimp only; rw [h _ _ _ _ hx]; rfl, hg x hx (by simp)⟩)
    · exact Or.inl fun go => by dsimp only; rw [hx]; rfl
end Sh
/-- an entry that leaves shapes and references as they are -/
def mQuiet (e : mEnt) : Bool := match e.2.1 with
  | .new _ => false
  | .newarray _ => false
  | .multianewarray _ _ => false
  | .putfield _ => !(Nat.beq e.2.2.2.2.1 2)
  | .invokespecial _ => Nat.beq e.2.2.2.1 9998 || decide (e.2.2.2.2.2.1 < 10)
  | .invokestatic _ => Nat.beq e.2.2.2.1 9999 || decide (e.2.2.2.2.2.1 < 10)
  | .invokevirtual _ => Nat.beq e.2.2.2.1 9997 || decide (e.2.2.2.2.2.1 < 10)
  | _ => true
def mT (Φ : mOrc) (e : mEnt) (M N : mMem) : Prop := (mQuiet e = true → N.1 = M.1 ∧ N.2.2 = M.2.2) ∧ (mGrows Φ → M.1.length ≤ N.1.length ∧ mSl M ≤ mSl N)
theorem mT_same {Φ : mOrc} {e : mEnt} {M : mMem} {mu : Nat → Int → Int} : mT Φ e M (M.1, mu, M.2.2) := ⟨fun _ => ⟨rfl, rfl⟩, fun _ => ⟨Nat.le_refl _, Nat.le_refl _⟩⟩
theorem mT_self {Φ : mOrc} {e : mEnt} {M : mMem} : mT Φ e M M := ⟨fun _ => ⟨rfl, rfl⟩, fun _ => ⟨Nat.le_refl _, Nat.le_refl _⟩⟩
theorem mNew_gr (M : mMem) (k n : Nat) : M.1.length ≤ (mNew M k n).1.length ∧ mSl M ≤ mSl (mNew M k n) := by simp [mNew, mSl]
theorem mNews_gr (M : mMem) (k n : Nat) : ∀ c, M.1.length ≤ (mNews M k n c).1.length ∧ mSl M ≤ mSl (mNews M k n c)
  | 0 => ⟨Nat.le_refl _, Nat.le_refl _⟩
  | c + 1 => ⟨Nat.le_trans (mNews_gr M k n c).1 (mNew_gr _ k n).1, Nat.le_trans (mNews_gr M k n c).2 (mNew_gr _ k n).2⟩
theorem mMulti_gr (M : mMem) (n k : Nat) : M.1.length ≤ (mMulti M n k).1.length ∧ mSl M ≤ mSl (mMulti M n k) := by
  have h := mNews_gr (mNew M 4 n) 0 k n
  have h0 := mNew_gr M 4 n
  have e : (mMulti M n k).1 = (mNews (mNew M 4 n) 0 k n).1 := rfl
  have e2 : mSl (mMulti M n k) = mSl (mNews (mNew M 4 n) 0 k n) := rfl
  rw [e, e2]
  exact ⟨Nat.le_trans h0.1 h.1, Nat.le_trans h0.2 h.2⟩
set_option maxHeartbeats 4000000 in
theorem mStep_sh (Φ : mOrc) (e : mEnt) (pc : Nat) (ls : mLs) (st : List mV) (M : mMem) : mSh Φ M (mT Φ e M) (fun Ψ go => mStep Ψ e pc ls st M go) := by
  obtain ⟨cut, ins, len, r1, r2, z, sw⟩ := e
  cases ins
  case new i => exact sh_go ⟨(fun h => by cases h), fun _ => mNew_gr _ _ _⟩
  case newarray t =>
    refine sh_I1 fun n r => sh_ite (fun _ => ?_) (fun _ => sh_none)
    cases t <;> first | exact sh_none | exact sh_go ⟨(fun h => by cases h), fun _ => mNew_gr _ _ _⟩
  case multianewarray i j => exact sh_I2 fun n k r => sh_ite (fun _ => sh_go ⟨(fun h => by cases h), fun _ => mMulti_gr _ _ _⟩) (fun _ => sh_none)
  case putfield i => exact sh_RR fun v a r => sh_cond (fun _ => sh_PutF (fun mu => sh_go mT_same) (fun h rh => sh_go ⟨(fun h2 => by subst h; cases h2), fun _ => ⟨Nat.le_refl _, Nat.le_refl _⟩⟩)) (fun _ => sh_none)
  case invokespecial i =>
    refine sh_cond (fun _ => sh_R1 fun _ r => sh_cond (fun _ => sh_none) (fun _ => sh_go mT_self)) (fun hc => sh_Take (fun as r => sh_cond (fun _ => sh_none) (fun _ => sh_Call (fun mu _ => mT_same) (fun x hx hz => ⟨fun hq => ?_, fun hg => hg _ _ _ _ hx⟩))) _ _ _)
    simp only [mQuiet, hc, Bool.false_or, decide_eq_true_eq] at hq
    omega
  case invokestatic i =>
    refine sh_cond (fun _ => sh_Copy (g := fun r N _ go => bif Nat.blt 4 r.length then none else go (pc + len) ls r N) fun r mu => sh_cond (fun _ => sh_none) (fun _ => sh_go mT_same)) (fun hc => sh_Take (fun as r => sh_cond (fun _ => sh_none) (fun _ => sh_Call (fun mu _ => mT_same) (fun x hx hz => ⟨fun hq => ?_, fun hg => hg _ _ _ _ hx⟩))) _ _ _)
    simp only [mQuiet, hc, Bool.false_or, decide_eq_true_eq] at hq
    omega
  case invokevirtual i =>
    refine sh_cond (fun _ => sh_IR fun i a r => sh_cond (fun _ => sh_ite (fun _ => sh_go mT_self) (fun _ => sh_none)) (fun _ => sh_none)) (fun hc => sh_Take (fun as r => sh_cond (fun _ => sh_none) (fun _ => sh_Call (fun mu _ => mT_same) (fun x hx hz => ⟨fun hq => ?_, fun hg => hg _ _ _ _ hx⟩))) _ _ _)
    simp only [mQuiet, hc, Bool.false_or, decide_eq_true_eq] at hq
    omega
  case dup => 
    match st with
    | v :: r => exact sh_cond (fun _ => sh_none) (fun _ => sh_go mT_self)
    | [] => exact sh_none
  case pop => 
    match st with
    | v :: r => exact sh_cond (fun _ => sh_none) (fun _ => sh_go mT_self)
    | [] => exact sh_none
  case dup2 => 
    match st with
    | v :: w :: r => exact sh_cond (fun _ => sh_none) (fun _ => sh_go mT_self)
    | [_] => exact sh_none
    | [] => exact sh_none
  case return_ =>
    match st with
    | [] => exact sh_ret
    | _ :: _ => exact sh_none
  case ireturn =>
    match st with
    | [] => exact sh_none
    | [Sum.inl a] => exact sh_cond (fun _ => sh_ite (fun _ => sh_ret) (fun _ => sh_none)) (fun _ => sh_ret)
    | Sum.inr _ :: _ => exact sh_none
    | Sum.inl _ :: _ :: _ => exact sh_none
  case lreturn =>
    match st with
    | [] => exact sh_none
    | [Sum.inr (Sum.inl a)] => exact sh_ret
    | Sum.inl _ :: _ => exact sh_none
    | Sum.inr (Sum.inr _) :: _ => exact sh_none
    | Sum.inr (Sum.inl _) :: _ :: _ => exact sh_none
  case iinc i k =>
    refine sh_Ld fun v => ?_
    match v with
    | Sum.inl x => exact sh_go mT_self
    | Sum.inr _ => exact sh_none
  case ifCond c o =>
    refine sh_I1 fun a r => ?_
    cases c <;> exact sh_br (fun _ => sh_go mT_self) (fun _ => sh_go mT_self)
  case if_icmp c o =>
    refine sh_I2 fun a b r => ?_
    cases c <;> exact sh_br (fun _ => sh_go mT_self) (fun _ => sh_go mT_self)
  case tableswitch a b c d => exact sh_I1 fun a r => sh_Sw (fun t => sh_go mT_self) _
  case lookupswitch a b => exact sh_I1 fun a r => sh_Sw (fun t => sh_go mT_self) _
  case getfield i => exact sh_R1 fun a r => sh_cond (fun _ => sh_go mT_self) (fun _ => sh_none)
  case ldc i => exact sh_cond (fun _ => sh_go mT_self) (fun _ => sh_go mT_self)
  case arraylength =>
    refine sh_R1 fun a r => ?_
    match r1 with
    | 0 => exact sh_cond (fun _ => sh_go mT_self) (fun _ => sh_none)
    | 1 => exact sh_cond (fun _ => sh_go mT_self) (fun _ => sh_none)
    | 2 => exact sh_cond (fun _ => sh_go mT_self) (fun _ => sh_none)
    | _ + 3 => exact sh_cond (fun _ => sh_Call (fun mu _ => mT_same) (fun x hx hz => absurd hz (by decide))) (fun _ => sh_none)
  case iaload =>
    refine sh_IR fun i a r => ?_
    match r1 with
    | 0 => exact sh_cond (fun _ => sh_ite (fun _ => sh_go mT_self) (fun _ => sh_none)) (fun _ => sh_none)
    | 1 => exact sh_cond (fun _ => sh_ite (fun _ => sh_go mT_self) (fun _ => sh_none)) (fun _ => sh_none)
    | 2 => exact sh_cond (fun _ => sh_ite (fun _ => sh_go mT_self) (fun _ => sh_none)) (fun _ => sh_none)
    | _ + 3 => exact sh_cond (fun _ => sh_Call (fun mu _ => mT_same) (fun x hx hz => absurd hz (by decide))) (fun _ => sh_none)
  case caload => exact sh_IR fun i a r => sh_cond (fun _ => sh_ite (fun _ => sh_go mT_self) (fun _ => sh_none)) (fun _ => sh_none)
  case baload => exact sh_IR fun i a r => sh_cond (fun _ => sh_ite (fun _ => sh_go mT_self) (fun _ => sh_none)) (fun _ => sh_none)
  case laload => exact sh_IR fun i a r => sh_cond (fun _ => sh_ite (fun _ => sh_go mT_self) (fun _ => sh_none)) (fun _ => sh_none)
  case aaload => exact sh_IR fun i a r => sh_cond (fun _ => sh_ite (fun _ => sh_Opt fun x => sh_go mT_self) (fun _ => sh_none)) (fun _ => sh_none)
  case iastore => exact sh_IIR fun x i a r => sh_cond (fun _ => sh_ite (fun _ => sh_go mT_same) (fun _ => sh_none)) (fun _ => sh_none)
  case castore => exact sh_IIR fun x i a r => sh_cond (fun _ => sh_ite (fun _ => sh_go mT_same) (fun _ => sh_none)) (fun _ => sh_none)
  case bastore => exact sh_IIR fun x i a r => sh_cond (fun _ => sh_ite (fun _ => sh_go mT_same) (fun _ => sh_none)) (fun _ => sh_none)
  case lastore => exact sh_JIR fun x i a r => sh_cond (fun _ => sh_ite (fun _ => sh_go mT_same) (fun _ => sh_none)) (fun _ => sh_none)
  case idiv => exact sh_I2 fun a b r => sh_ite (fun _ => sh_none) (fun _ => sh_go mT_self)
  case irem => exact sh_I2 fun a b r => sh_ite (fun _ => sh_none) (fun _ => sh_go mT_self)
  case ldiv => exact sh_J2 fun a b r => sh_ite (fun _ => sh_none) (fun _ => sh_go mT_self)
  case lrem => exact sh_J2 fun a b r => sh_ite (fun _ => sh_none) (fun _ => sh_go mT_self)
  case i2l => exact sh_I1 fun a r => sh_go mT_self
  case l2i => exact sh_J1 fun a r => sh_go mT_self
  case istore i => exact sh_Store (g := fun ls st _ go => go (pc + len) ls st M) fun _ _ => sh_go mT_self
  case istore_n i => exact sh_Store (g := fun ls st _ go => go (pc + len) ls st M) fun _ _ => sh_go mT_self
  case astore i => exact sh_Store (g := fun ls st _ go => go (pc + len) ls st M) fun _ _ => sh_go mT_self
  case astore_n i => exact sh_Store (g := fun ls st _ go => go (pc + len) ls st M) fun _ _ => sh_go mT_self
  case lstore i => exact sh_StoreJ (g := fun ls st _ go => go (pc + len) ls st M) fun _ _ => sh_go mT_self
  case lstore_n i => exact sh_StoreJ (g := fun ls st _ go => go (pc + len) ls st M) fun _ _ => sh_go mT_self
  all_goals first
    | exact sh_none
    | exact sh_go mT_self
    | exact sh_Load (g := fun st _ go => go (pc + len) ls st M) fun _ => sh_go mT_self
    | exact sh_I2 fun _ _ _ => sh_go mT_self
    | exact sh_J2 fun _ _ _ => sh_go mT_self

theorem mStep_shot (Φ : mOrc) (e : mEnt) (pc : Nat) (ls : mLs) (st : List mV) (M : mMem) : (∀ go, mStep Φ e pc ls st M go = none) ∨ (∃ v, ∀ Ψ go, mStep Ψ e pc ls st M go = some (v, M)) ∨ (∃ pc' ls' st' N, (∀ Ψ go, mLe Φ Ψ → mStep Ψ e pc ls st M go = go pc' ls' st' N) ∧ mT Φ e M N) := mStep_sh Φ e pc ls st M
/-! more fuel, a larger oracle -/
theorem mFwd_le {Φ Ψ : mOrc} (hΦ : mLe Φ Ψ) {c : mCod} {k k' : mGo} {r : Int × mMem} (hk : ∀ pc ls st M, k pc ls st M = some r → k' pc ls st M = some r) : ∀ (f pc : Nat) (ls : mLs) (st : List mV) (M : mMem), mFwd Φ c k f pc ls st M = some r → mFwd Ψ c k' f pc ls st M = some r
  | 0, _, _, _, _, h => by cases h
  | f + 1, pc, ls, st, M, h => by
    unfold mFwd at h ⊢
    cases hc : c pc with
    | none => rw [hc] at h; cases h
    | some e =>
      rw [hc] at h
      dsimp only at h ⊢
      rcases mStep_shot Φ e pc ls st M with q | ⟨v, q⟩ | ⟨pc', ls', st', N, q, -⟩
      · rw [q] at h; cases h
      · rw [q] at h ⊢; exact h
      · rw [q Φ _ (fun _ _ _ _ h => h)] at h
        rw [q Ψ _ hΦ]
        cases hb : mCut c pc'
        · rw [hb] at h; exact mFwd_le hΦ hk f pc' ls' st' N h
        · rw [hb] at h; exact hk _ _ _ _ h
theorem mRun_le {Φ Ψ : mOrc} (hΦ : mLe Φ Ψ) {c : mCod} {r : Int × mMem} : ∀ (n m pc : Nat) (ls : mLs) (st : List mV) (M : mMem), n ≤ m → mRun Φ c n pc ls st M = some r → mRun Ψ c m pc ls st M = some r
  | 0, _, _, _, _, _, _, h => by cases h
  | n + 1, 0, _, _, _, _, hm, _ => absurd hm (Nat.not_succ_le_zero n)
  | n + 1, m + 1, pc, ls, st, M, hm, h => mFwd_le hΦ (fun pc ls st M h => mRun_le hΦ n m pc ls st M (Nat.le_of_succ_le_succ hm) h) 1000 pc ls st M h
/-- what a run comes to, however long it takes -/
def mEv (Φ : mOrc) (c : mCod) (pc : Nat) (ls : mLs) (st : List mV) (M : mMem) (r : Int × mMem) : Prop := ∃ n, mRun Φ c n pc ls st M = some r
noncomputable def mLim (Φ : mOrc) (c : mCod) (ls : mLs) (M : mMem) : mRes := @dite _ (∃ n r, mRun Φ c n 0 ls [] M = some r) (Classical.propDecidable _) (fun h => some (Classical.choose (Classical.choose_spec h))) (fun _ => none)
theorem mLim_iff {Φ : mOrc} {c : mCod} {ls : mLs} {M : mMem} {r : Int × mMem} : mLim Φ c ls M = some r ↔ mEv Φ c 0 ls [] M r := by
  unfold mLim
  constructor
  · intro h
    split at h
    · rename_i hx
      have h2 := Classical.choose_spec (Classical.choose_spec hx)
      rw [Option.some.inj h] at h2
      exact ⟨_, h2⟩
    · cases h
  · intro h
    obtain ⟨n, hn⟩ := h
    have hx : ∃ n r, mRun Φ c n 0 ls [] M = some r := ⟨n, r, hn⟩
    rw [dif_pos hx]
    have h2 := Classical.choose_spec (Classical.choose_spec hx)
    have e1 := mRun_le (fun _ _ _ _ h => h) _ (n + Classical.choose hx) 0 ls [] M (Nat.le_add_left _ _) h2
    have e2 := mRun_le (fun _ _ _ _ h => h) _ (n + Classical.choose hx) 0 ls [] M (Nat.le_add_right _ _) hn
    rw [e1] at e2
    exact e2
theorem mEv_le {Φ Ψ : mOrc} (hΦ : mLe Φ Ψ) {c : mCod} {pc : Nat} {ls : mLs} {st : List mV} {M : mMem} {r : Int × mMem} (h : mEv Φ c pc ls st M r) : mEv Ψ c pc ls st M r := by
  obtain ⟨n, h⟩ := h
  exact ⟨n, mRun_le hΦ n n pc ls st M (Nat.le_refl n) h⟩
/-- the locals at a method's beginning -/
def mIniL : List mV → mLs
  | [] => []
  | Sum.inr (Sum.inl x) :: r => some (mJ x) :: none :: mIniL r
  | v :: r => some v :: mIniL r
def mIni (as : List mV) (n : Nat) : mLs := mIniL as ++ List.replicate (n - (mIniL as).length) none
/-- shapes grow, and quiet code leaves them -/
def mQuietC (c : mCod) : Prop := ∀ pc e, c pc = some e → mQuiet e = true
theorem mFwd_gr {Φ : mOrc} (hg : mGrows Φ) {c : mCod} {k : mGo} {r : Int × mMem} (hk : ∀ pc ls st M, k pc ls st M = some r → M.1.length ≤ r.2.1.length ∧ mSl M ≤ mSl r.2) : ∀ (f pc : Nat) (ls : mLs) (st : List mV) (M : mMem), mFwd Φ c k f pc ls st M = some r → M.1.length ≤ r.2.1.length ∧ mSl M ≤ mSl r.2
  | 0, _, _, _, _, h => by cases h
  | f + 1, pc, ls, st, M, h => by
    unfold mFwd at h
    cases hc : c pc with
    | none => rw [hc] at h; cases h
    | some e =>
      rw [hc] at h
      dsimp only at h
      rcases mStep_shot Φ e pc ls st M with q | ⟨v, q⟩ | ⟨pc', ls', st', N, q, hT⟩
      · rw [q] at h; cases h
      · rw [q] at h; cases h; exact ⟨Nat.le_refl _, Nat.le_refl _⟩
      · rw [q Φ _ (fun _ _ _ _ h => h)] at h
        have h1 := hT.2 hg
        have h2 : N.1.length ≤ r.2.1.length ∧ mSl N ≤ mSl r.2 := by
          cases hb : mCut c pc'
          · rw [hb] at h; exact mFwd_gr hg hk f pc' ls' st' N h
          · rw [hb] at h; exact hk _ _ _ _ h
        exact ⟨Nat.le_trans h1.1 h2.1, Nat.le_trans h1.2 h2.2⟩
theorem mRun_gr {Φ : mOrc} (hg : mGrows Φ) {c : mCod} {r : Int × mMem} : ∀ (n pc : Nat) (ls : mLs) (st : List mV) (M : mMem), mRun Φ c n pc ls st M = some r → M.1.length ≤ r.2.1.length ∧ mSl M ≤ mSl r.2
  | 0, _, _, _, _, h => by cases h
  | n + 1, pc, ls, st, M, h => mFwd_gr hg (fun pc ls st M h => mRun_gr hg n pc ls st M h) 1000 pc ls st M h
theorem mFwd_qu {Φ : mOrc} {c : mCod} (hq : mQuietC c) {k : mGo} {r : Int × mMem} (hk : ∀ pc ls st M, k pc ls st M = some r → r.2.1 = M.1 ∧ r.2.2.2 = M.2.2) : ∀ (f pc : Nat) (ls : mLs) (st : List mV) (M : mMem), mFwd Φ c k f pc ls st M = some r → r.2.1 = M.1 ∧ r.2.2.2 = M.2.2
  | 0, _, _, _, _, h => by cases h
  | f + 1, pc, ls, st, M, h => by
    unfold mFwd at h
    cases hc : c pc with
    | none => rw [hc] at h; cases h
    | some e =>
      rw [hc] at h
      dsimp only at h
      rcases mStep_shot Φ e pc ls st M with q | ⟨v, q⟩ | ⟨pc', ls', st', N, q, hT⟩
      · rw [q] at h; cases h
      · rw [q] at h; cases h; exact ⟨rfl, rfl⟩
      · rw [q Φ _ (fun _ _ _ _ h => h)] at h
        have h1 := hT.1 (hq pc e hc)
        have h2 : r.2.1 = N.1 ∧ r.2.2.2 = N.2.2 := by
          cases hb : mCut c pc'
          · rw [hb] at h; exact mFwd_qu hq hk f pc' ls' st' N h
          · rw [hb] at h; exact hk _ _ _ _ h
        exact ⟨h2.1.trans h1.1, h2.2.trans h1.2⟩
theorem mRun_qu {Φ : mOrc} {c : mCod} (hq : mQuietC c) {r : Int × mMem} : ∀ (n pc : Nat) (ls : mLs) (st : List mV) (M : mMem), mRun Φ c n pc ls st M = some r → r.2.1 = M.1 ∧ r.2.2.2 = M.2.2
  | 0, _, _, _, _, h => by cases h
  | n + 1, pc, ls, st, M, h => mFwd_qu hq (fun pc ls st M h => mRun_qu hq n pc ls st M h) 1000 pc ls st M h
