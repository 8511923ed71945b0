/-! ===== a run's end by what holds of it: rules for trees ===== -/
def Ev (T : Nat → mRes) (b : Bool) (Q : Int → (Nat → Int → Int) → Prop) : Prop := ∃ n v μ', T n = some (v, SH, μ', RHO b) ∧ Q v μ'
def Cal (d z : Nat) (as : List mV) (b : Bool) (μ : Nat → Int → Int) (Q : Int → (Nat → Int → Int) → Prop) : Prop := ∃ v μ', mCallN d z as (SH, μ, RHO b) = some (v, SH, μ', RHO b) ∧ Q v μ'
theorem ev_row {Φ : mOrc} {k : mCod} {pc : Nat} {ls : mLs} {st : List mV} {M : mMem} {b : Bool} {Q : Int → (Nat → Int → Int) → Prop} {T : Nat → mRes} (row : ∀ n, mRun Φ k (n + 1) pc ls st M = T n) (h : Ev T b Q) : Ev (fun n => mRun Φ k n pc ls st M) b Q := by
  obtain ⟨n, v, μ', h1, h2⟩ := h
  exact ⟨n + 1, v, μ', (row n).trans h1, h2⟩
theorem ev_br {c : Prop} [Decidable c] {A B : Nat → mRes} {b : Bool} {Q : Int → (Nat → Int → Int) → Prop} (h1 : c → Ev A b Q) (h2 : ¬ c → Ev B b Q) : Ev (fun n => mBr c (A n) (B n)) b Q := by
  by_cases e : c
  · obtain ⟨n, v, μ', h3, h4⟩ := h1 e
    exact ⟨n, v, μ', (mBr_pos e).trans h3, h4⟩
  · obtain ⟨n, v, μ', h3, h4⟩ := h2 e
    exact ⟨n, v, μ', (mBr_neg e).trans h3, h4⟩
theorem ev_pos {c : Prop} [Decidable c] {A B : Nat → mRes} {b : Bool} {Q : Int → (Nat → Int → Int) → Prop} (e : c) (h1 : Ev A b Q) : Ev (fun n => mBr c (A n) (B n)) b Q := ev_br (fun _ => h1) (fun e' => absurd e e')
theorem ev_neg {c : Prop} [Decidable c] {A B : Nat → mRes} {b : Bool} {Q : Int → (Nat → Int → Int) → Prop} (e : ¬ c) (h1 : Ev B b Q) : Ev (fun n => mBr c (A n) (B n)) b Q := ev_br (fun e' => absurd e' e) (fun _ => h1)
theorem ev_ite {c : Prop} [Decidable c] {A B : Nat → mRes} {b : Bool} {Q : Int → (Nat → Int → Int) → Prop} (h1 : c → Ev A b Q) (h2 : ¬ c → Ev B b Q) : Ev (fun n => if c then A n else B n) b Q := ev_br h1 h2
theorem ev_if {c : Prop} [Decidable c] {A B : Nat → mRes} {b : Bool} {Q : Int → (Nat → Int → Int) → Prop} (e : c) (h1 : Ev A b Q) : Ev (fun n => if c then A n else B n) b Q := ev_pos e h1
theorem ev_if0 {c : Prop} [Decidable c] {A B : Nat → mRes} {b : Bool} {Q : Int → (Nat → Int → Int) → Prop} (e : ¬ c) (h1 : Ev B b Q) : Ev (fun n => if c then A n else B n) b Q := ev_neg e h1
theorem ev_call {Φ : mOrc} {z : Nat} {as : List mV} {M : mMem} {v : Int} {μ' : Nat → Int → Int} {b : Bool} {Q : Int → (Nat → Int → Int) → Prop} {A : Int × mMem → Nat → mRes} (h : Φ z as M = some (v, SH, μ', RHO b)) (h2 : Ev (A (v, SH, μ', RHO b)) b Q) : Ev (fun n => mOptR (Φ z as M) (fun x => A x n)) b Q := by
  obtain ⟨n, v', μ2, h3, h4⟩ := h2
  exact ⟨n, v', μ2, by rw [h]; exact h3, h4⟩
theorem ev_callP {d z : Nat} {as : List mV} {μ : Nat → Int → Int} {b : Bool} {P Q : Int → (Nat → Int → Int) → Prop} {A : Int × mMem → Nat → mRes} (h : Cal d z as b μ P) (h2 : ∀ v μ', P v μ' → Ev (A (v, SH, μ', RHO b)) b Q) : Ev (fun n => mOptR (mCallN d z as (SH, μ, RHO b)) (fun x => A x n)) b Q := by
  obtain ⟨v, μ', h1, h3⟩ := h
  exact ev_call h1 (h2 v μ' h3)
theorem ev_ret {v : Int} {μ' : Nat → Int → Int} {b : Bool} {Q : Int → (Nat → Int → Int) → Prop} (h : Q v μ') : Ev (fun _ => some (v, SH, μ', RHO b)) b Q := ⟨0, v, μ', rfl, h⟩
theorem cal_ev {d z : Nat} {as : List mV} {μ : Nat → Int → Int} {k : mCod} {ls : mLs} {b : Bool} {Q : Int → (Nat → Int → Int) → Prop} (hc : ∀ r, mEv (mCallN d) k 0 ls [] (SH, μ, RHO b) r → mCallN (d + 1) z as (SH, μ, RHO b) = some r) (h : Ev (fun n => mRun (mCallN d) k n 0 ls [] (SH, μ, RHO b)) b Q) : Cal (d + 1) z as b μ Q := by
  obtain ⟨n, v, μ', h1, h2⟩ := h
  exact ⟨v, μ', hc _ ⟨n, h1⟩, h2⟩
theorem cal_eq {d z : Nat} {as : List mV} {μ : Nat → Int → Int} {b : Bool} {v : Int} {μ' : Nat → Int → Int} (h : Cal d z as b μ (fun v' μ2 => v' = v ∧ μ2 = μ')) : mCallN d z as (SH, μ, RHO b) = some (v, SH, μ', RHO b) := by
  obtain ⟨v2, μ2, h1, h2, h3⟩ := h
  rw [h1, h2, h3]
theorem ev_mono {T : Nat → mRes} {b : Bool} {P Q : Int → (Nat → Int → Int) → Prop} (h : Ev T b P) (h2 : ∀ v μ', P v μ' → Q v μ') : Ev T b Q := by
  obtain ⟨n, v, μ', h1, h3⟩ := h
  exact ⟨n, v, μ', h1, h2 v μ' h3⟩
theorem cal_mono {d z : Nat} {as : List mV} {μ : Nat → Int → Int} {b : Bool} {P Q : Int → (Nat → Int → Int) → Prop} (h : Cal d z as b μ P) (h2 : ∀ v μ', P v μ' → Q v μ') : Cal d z as b μ Q := by
  obtain ⟨v, μ', h1, h3⟩ := h
  exact ⟨v, μ', h1, h2 v μ' h3⟩
theorem cal_of {d z : Nat} {as : List mV} {μ : Nat → Int → Int} {b : Bool} {Q : Int → (Nat → Int → Int) → Prop} {v : Int} {μ' : Nat → Int → Int} (h : mCallN d z as (SH, μ, RHO b) = some (v, SH, μ', RHO b)) (h2 : Q v μ') : Cal d z as b μ Q := ⟨v, μ', h, h2⟩
theorem deepC {z : Nat} {as : List mV} {μ : Nat → Int → Int} {b : Bool} {Q : Int → (Nat → Int → Int) → Prop} {k : Nat} (h : ∀ d, k ≤ d → Cal (d + 1) z as b μ Q) : ∀ d, k + 1 ≤ d → Cal d z as b μ Q := deep (P := fun d => Cal d z as b μ Q) h
/-- nothing but these cells has changed -/
def Fr (L : List Nat) (μ μ' : Nat → Int → Int) : Prop := ∀ a, a ∉ L → μ' a = μ a
theorem fr_rfl {L : List Nat} {μ : Nat → Int → Int} : Fr L μ μ := fun _ _ => rfl
theorem fr_m2 {L : List Nat} {μ μ' : Nat → Int → Int} {a : Nat} {i v : Int} (h : Fr L μ μ') (ha : a ∈ L) : Fr L μ (m2 μ' a i v) := fun c hc => by
  rw [m2_ne (fun e => hc (by rw [e]; exact ha)), h c hc]
theorem fr_tr {L K : List Nat} {μ μ' μ2 : Nat → Int → Int} (h : Fr L μ μ') (h2 : Fr K μ' μ2) (hs : ∀ a, a ∈ K → a ∈ L) : Fr L μ μ2 := fun c hc => by
  rw [h2 c (fun e => hc (hs c e)), h c hc]
theorem fr_sub {L K : List Nat} {μ μ' : Nat → Int → Int} (h : Fr K μ μ') (hs : ∀ a, a ∈ K → a ∈ L) : Fr L μ μ' := fun c hc => h c (fun e => hc (hs c e))
theorem tw_or (b : Bool) : tw b = 4 ∨ tw b = 77 := by cases b; exact Or.inr rfl; exact Or.inl rfl
