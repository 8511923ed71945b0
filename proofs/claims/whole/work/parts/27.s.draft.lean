/-! ===== town: the data told so far ===== -/
/-- names by kind, men (test from, bribe from, bribe end, tires), gates, people, codes, hour -/
abbrev DT : Type := (Nat → List (List Int)) × List (Int × Int × Int × Int) × List (Int × Int × Int) × List (Int × Int × Int × Int) × List Int × Int
def z4 : Int × Int × Int × Int := (0, 0, 0, 0)
def z3 : Int × Int × Int := (0, 0, 0)
def CMn (b : Bool) (μ : Nat → Int → Int) (L : List (Int × Int × Int × Int)) : Prop := ∀ i : Nat, i < L.length → μ (tw (!b) + 16) (i : Int) = (L.getD i z4).1 ∧ μ (tw (!b) + 17) (i : Int) = (L.getD i z4).2.1 ∧ μ (tw (!b) + 18) (i : Int) = (L.getD i z4).2.2.1 ∧ μ (tw (!b) + 7) (i : Int) = (L.getD i z4).2.2.2
def CGt (b : Bool) (μ : Nat → Int → Int) (L : List (Int × Int × Int)) : Prop := μ (tw (!b) + 1) 2 = (L.length : Int) ∧ ∀ i : Nat, i < L.length → μ (tw (!b) + 8) (i : Int) = (L.getD i z3).1 ∧ μ (tw (!b) + 9) (i : Int) = (L.getD i z3).2.1 ∧ μ (tw (!b) + 10) (i : Int) = (L.getD i z3).2.2
def CPp (b : Bool) (μ : Nat → Int → Int) (L : List (Int × Int × Int × Int)) : Prop := ∀ i : Nat, i < L.length → μ (tw (!b) + 11) (i : Int) = (L.getD i z4).1 ∧ μ (tw (!b) + 12) (i : Int) = (L.getD i z4).2.1 ∧ μ (tw (!b) + 13) (i : Int) = (L.getD i z4).2.2.1 ∧ μ (tw (!b) + 14) (i : Int) = (L.getD i z4).2.2.2
def CCd (b : Bool) (μ : Nat → Int → Int) (C : List Int) : Prop := μ (tw (!b)) 13 = (C.length : Int) ∧ ∀ i : Nat, i < C.length → μ (tw (!b) + 15) (i : Int) = cOf (C.getD i 0)
/-- the class's draft holds these -/
def Cl (b : Bool) (μ : Nat → Int → Int) : DT → Prop
  | (N, ML, GL, PL, C, H) => CNm b μ N ∧ CMn b μ ML ∧ CGt b μ GL ∧ CPp b μ PL ∧ CCd b μ C ∧ μ (tw (!b)) 1 = H
/-- a man's codes -/
def mOk (C : List Int) (x : Int × Int × Int × Int) : Prop := (1 ≤ x.2.2.2 ∧ x.2.2.2 ≤ 20) ∧ ∃ A B E F : List Int, C = A ++ B ++ E ++ F ∧ x.1 = (A.length : Int) ∧ x.2.1 = (A.length : Int) + (B.length : Int) ∧ x.2.2.1 = (A.length : Int) + (B.length : Int) + (E.length : Int) ∧ TyL B [] [true] ∧ TyL E [] [false]
def gtOk (R M : Nat) (x : Int × Int × Int) : Prop := (0 ≤ x.1 ∧ x.1 < (R : Int)) ∧ (0 ≤ x.2.1 ∧ x.2.1 < (R : Int)) ∧ x.1 ≠ x.2.1 ∧ (0 ≤ x.2.2 ∧ x.2.2 < (M : Int))
def pOk (R : Nat) (x : Int × Int × Int × Int) : Prop := (0 ≤ x.1 ∧ x.1 < (R : Int)) ∧ (0 ≤ x.2.1 ∧ x.2.1 < (R : Int)) ∧ (0 ≤ x.2.2.1 ∧ x.2.2.1 ≤ 999) ∧ (0 ≤ x.2.2.2 ∧ x.2.2.2 ≤ 99)
/-- data that can be -/
def DOk : DT → Prop
  | (N, ML, GL, PL, C, H) => NOk N ∧ ((N 0).length ≤ 10 ∧ (N 1).length ≤ 12 ∧ (N 3).length ≤ 6) ∧ (ML.length = (N 1).length ∧ PL.length = (N 3).length ∧ GL.length ≤ 12) ∧ (0 ≤ H ∧ H ≤ 23) ∧ (∀ x ∈ ML, mOk C x) ∧ (∀ x ∈ GL, gtOk (N 0).length (N 1).length x) ∧ (GL.map (fun x => x.2.2)).Nodup ∧ (∀ x ∈ PL, pOk (N 0).length x)
/-- nothing but the reader and the draft -/
def Dfr (b : Bool) (μ μ' : Nat → Int → Int) : Prop := (∀ a, a ≠ 1 → ¬ (tw (!b) ≤ a ∧ a ≤ tw (!b) + 18) → μ' a = μ a) ∧ ∀ j, j ∉ rdJ → μ' 1 j = μ 1 j
theorem dfr_rfl {b : Bool} {μ : Nat → Int → Int} : Dfr b μ μ := ⟨fun _ _ _ => rfl, fun _ _ => rfl⟩
theorem dfr_tr {b : Bool} {μ μ' μ2 : Nat → Int → Int} (h : Dfr b μ μ') (h2 : Dfr b μ' μ2) : Dfr b μ μ2 := ⟨fun a h1 h3 => by rw [h2.1 a h1 h3, h.1 a h1 h3], fun j hj => by rw [h2.2 j hj, h.2 j hj]⟩
theorem dfr_m2 {b : Bool} {μ μ' : Nat → Int → Int} {a : Nat} {i v : Int} (h : Dfr b μ μ') (ha : tw (!b) ≤ a ∧ a ≤ tw (!b) + 18) : Dfr b μ (m2 μ' a i v) := by
  have := tw_or (!b)
  exact ⟨fun c h1 h3 => by rw [m2_ne (fun e => h3 (by rw [e]; exact ha)), h.1 c h1 h3], fun j hj => by rw [m2_ne (by omega), h.2 j hj]⟩
theorem dfr_fj {b : Bool} {μ μ' : Nat → Int → Int} (h : Fj rdJ μ μ') : Dfr b μ μ' := ⟨fun a h1 _ => h.1 a (by simp; exact h1), h.2⟩
theorem dfr_xf {b : Bool} {μ μ' : Nat → Int → Int} (h : Xf b μ μ') : Dfr b μ μ' := ⟨fun a h1 h3 => h.1 a (by simp only [List.mem_cons, List.not_mem_nil, or_false]; omega), h.2.1⟩
/-- the draft's cells are the same -/
def Dsm (b : Bool) (μ μ' : Nat → Int → Int) : Prop := ∀ a, tw (!b) ≤ a → a ≤ tw (!b) + 18 → μ' a = μ a
theorem dsm_fj {b : Bool} {μ μ' : Nat → Int → Int} (h : Fj rdJ μ μ') : Dsm b μ μ' := fun a h1 h2 => h.1 a (by have := tw_or (!b); simp; omega)
theorem CNm_sm {b : Bool} {μ μ' : Nat → Int → Int} {N : Nat → List (List Int)} (h : Dsm b μ μ') (hc : CNm b μ N) : CNm b μ' N := fun k hk h2 => by
  have e := h (tw (!b) + 3 + k) (by omega) (by omega)
  have e1 := h (tw (!b) + 1) (by omega) (by omega)
  rw [e, e1]; exact hc k hk h2
theorem CMn_sm {b : Bool} {μ μ' : Nat → Int → Int} {L : List (Int × Int × Int × Int)} (h : ∀ a, a = 16 ∨ a = 17 ∨ a = 18 ∨ a = 7 → μ' (tw (!b) + a) = μ (tw (!b) + a)) (hc : CMn b μ L) : CMn b μ' L := fun i hi => by
  rw [h 16 (by omega), h 17 (by omega), h 18 (by omega), h 7 (by omega)]; exact hc i hi
theorem CGt_sm {b : Bool} {μ μ' : Nat → Int → Int} {L : List (Int × Int × Int)} (h1 : μ' (tw (!b) + 1) 2 = μ (tw (!b) + 1) 2) (h : ∀ a, a = 8 ∨ a = 9 ∨ a = 10 → μ' (tw (!b) + a) = μ (tw (!b) + a)) (hc : CGt b μ L) : CGt b μ' L := ⟨by rw [h1]; exact hc.1, fun i hi => by
  rw [h 8 (by omega), h 9 (by omega), h 10 (by omega)]; exact hc.2 i hi⟩
theorem CPp_sm {b : Bool} {μ μ' : Nat → Int → Int} {L : List (Int × Int × Int × Int)} (h : ∀ a, a = 11 ∨ a = 12 ∨ a = 13 ∨ a = 14 → μ' (tw (!b) + a) = μ (tw (!b) + a)) (hc : CPp b μ L) : CPp b μ' L := fun i hi => by
  rw [h 11 (by omega), h 12 (by omega), h 13 (by omega), h 14 (by omega)]; exact hc i hi
theorem CCd_sm {b : Bool} {μ μ' : Nat → Int → Int} {C : List Int} (h : μ' (tw (!b)) 13 = μ (tw (!b)) 13) (h2 : μ' (tw (!b) + 15) = μ (tw (!b) + 15)) (hc : CCd b μ C) : CCd b μ' C := ⟨by rw [h]; exact hc.1, fun i hi => by rw [h2]; exact hc.2 i hi⟩
theorem Cl_sm {b : Bool} {μ μ' : Nat → Int → Int} {D : DT} (h : Dsm b μ μ') (hc : Cl b μ D) : Cl b μ' D := by
  obtain ⟨N, ML, GL, PL, C, H⟩ := D
  obtain ⟨c1, c2, c3, c4, c5, c6⟩ := hc
  have e1 := h (tw (!b) + 1) (by omega) (by omega)
  have e0 := h (tw (!b)) (by omega) (by omega)
  exact ⟨CNm_sm h c1, CMn_sm (fun a _ => h _ (by omega) (by omega)) c2, CGt_sm (by rw [e1]) (fun a _ => h _ (by omega) (by omega)) c3, CPp_sm (fun a _ => h _ (by omega) (by omega)) c4, CCd_sm (by rw [e0]) (h _ (by omega) (by omega)) c5, by rw [e0]; exact c6⟩
theorem CLv_tw {b : Bool} {T : Int → Int} {n s : Int} {g : Bool} {μ : Nat → Int → Int} (h : CLv T n μ s g) {a : Nat} (ha : tw (!b) ≤ a) {i v : Int} : CLv T n (m2 μ a i v) s g := by
  have := tw_or (!b)
  exact CLv_same h (m2_ne (by omega)) (m2_ne (by omega)) (m2_ne (by omega))
theorem CDd_tw {b : Bool} {T : Int → Int} {n : Int} {e : Int × Int} {μ : Nat → Int → Int} (h : CDd T n μ e) {a : Nat} (ha : tw (!b) ≤ a) {i v : Int} : CDd T n (m2 μ a i v) e := by
  have := tw_or (!b)
  exact CDd_same h (m2_ne (by omega)) (m2_ne (by omega)) (m2_ne (by omega))
theorem xMost_at {k : Nat} (hk : k < 4) : xMost.getD ((k : Int)).toNat 0 = if k = 0 then 10 else if k = 3 then 6 else 12 := by
  rcases (by omega : k = 0 ∨ k = 1 ∨ k = 2 ∨ k = 3) with e | e | e | e <;> subst e <;> rfl
def mst (k : Nat) : Int := if k = 0 then 10 else if k = 3 then 6 else 12
theorem sX4_takeAnother {T : Int → Int} {n s : Int} {g : Bool} (hT : Tp T n) {k : Nat} (hk : k < 4) (b : Bool) (μ : Nat → Int → Int) (h : CLv T n μ s g) : ∀ d, 3 ≤ d → Cal d 175 [mP 1, mI (k : Int)] b μ (fun v μ' => Fj rdJ μ μ' ∧ ((μ (tw (!b) + 1) (k : Int) < mst k ∧ v = 1 ∧ CLv T n μ' (nxS T n s) (nxG T n s g)) ∨ (¬ μ (tw (!b) + 1) (k : Int) < mst k ∧ v = 0 ∧ CDd T n μ' (5, s)))) := deepC fun d hd => by
  refine cal_ev (fun r => call_X4_takeAnother d b μ (k : Int)) (ev_row (fun m => tX4_takeAnother_0 _ m b μ (k : Int)) (ev_if (by omega) (ev_if (by omega) ?_)))
  rw [show xMost.getD ((k : Int)).toNat 0 = mst k from xMost_at hk, h.2.2.2.2.1.2.2.2.1]
  refine ev_br (fun e => ev_callP (sX4_take hT b μ h d hd) (fun v μ1 ⟨f1, h1⟩ => ev_ret ⟨f1, Or.inl ⟨e, rfl, h1⟩⟩)) (fun e => ev_callP (sX4_fail 5 s (by decide) b μ h d (by omega)) (fun v μ1 ⟨f1, h1⟩ => ev_ret ⟨f1, Or.inr ⟨e, rfl, h1⟩⟩))
/-- a name put behind those of a kind -/
def mNm (b : Bool) (k : Nat) (x : Int) (μ : Nat → Int → Int) : Nat → Int → Int := m2 (m2 μ (tw (!b) + 3 + k) (μ (tw (!b) + 1) (k : Int)) x) (tw (!b) + 1) (k : Int) (μ (tw (!b) + 1) (k : Int) + 1)
theorem newName_27 {d : Nat} {b : Bool} {k : Nat} (hk : k < 4) (p x : Int) (μ : Nat → Int → Int) (c0 : 0 ≤ μ (tw (!b) + 1) (k : Int)) (c1 : μ (tw (!b) + 1) (k : Int) < 12) {Q : Int → (Nat → Int → Int) → Prop} (hQ : Q (μ (tw (!b) + 1) (k : Int)) (mNm b k x μ)) : Ev (fun m => mRun (mCallN d) kX4_takeNewName m 27 [some (mP 1), some (mI (k : Int)), some (mI p), some (mI x), none] [] (SH, μ, RHO b)) b Q := by
  have k0 : 0 ≤ (k : Int) := by omega
  have k1 : (k : Int) < 4 := by omega
  refine ev_row (fun m => tX4_takeNewName_27 _ m b μ _ _ _) (ev_if ⟨k0, k1⟩ (ev_if ⟨k0, k1⟩ (ev_opt (rho_nm k0 k1) (ev_bif (arr_of (shp_nm k0 k1)) (ev_if ⟨c0, by rw [show mShape (SH, μ, RHO b) (tw (!b) + 3 + (k : Int).toNat) = (0, 12) from shp_nm k0 k1]; show μ (tw (!b) + 1) (k : Int) < ((12 : Nat) : Int); omega⟩ (ev_if ⟨k0, k1⟩ (ev_if ⟨k0, k1⟩ (ev_ret ?_))))))))
  rw [Int.toNat_natCast]
  have e1 : m2 μ (tw (!b) + 3 + k) (μ (tw (!b) + 1) (k : Int)) x (tw (!b) + 1) = μ (tw (!b) + 1) := m2_ne (by omega)
  rw [e1, w32_id (by omega) (by omega)]
  exact hQ
theorem sX4_takeNewName {T : Int → Int} {n s : Int} {g : Bool} (hT : Tp T n) {k : Nat} (hk : k < 4) (k2 : k ≠ 2) (b : Bool) (μ : Nat → Int → Int) (h : CLv T n μ s g) {N : Nat → List (List Int)} (hc : CNm b μ N) (hN : NOk N) (hl : (N k).length < 12) : ∀ d, 4 ≤ d → Cal d 178 [mP 1, mI (k : Int)] b μ (fun v μ' => ∃ x μ1, Fj rdJ μ μ1 ∧ μ' = mNm b k x μ1 ∧ v = ((N k).length : Int) ∧ ((nmO T n s g ∧ ¬ knN N (nmL T n s) ∧ x = pk5 (nmL T n s) ∧ CLv T n μ1 (nxS T n s) (nxG T n s g)) ∨ (nmO T n s g ∧ knN N (nmL T n s) ∧ CDd T n μ1 (3, s)) ∨ ∃ e, naE T n s g e ∧ CDd T n μ1 e)) := deepC fun d hd => by
  refine cal_ev (fun r => call_X4_takeNewName d b μ (k : Int)) (ev_row (fun m => tX4_takeNewName_0 _ m b μ (k : Int)) ?_)
  rw [h.2.2.2.2.1.2.2.2.1]
  have hcnt : ∀ μ1, Fj rdJ μ μ1 → μ1 (tw (!b) + 1) (k : Int) = ((N k).length : Int) := fun μ1 f1 => by
    have := tw_or (!b)
    rw [f1.1 _ (by simp; omega)]; exact (hc k hk k2).1
  rcases nmO_or T n s g with hn | ⟨e, he⟩
  · have hg : gdN (nmL T n s) := nmL_ok hT h.2.2.2.2.2 hn
    refine ev_callP (sX4_takeName_ok hT b μ h hn d (by omega)) (fun v μ1 ⟨hv, f1', h1⟩ => ?_)
    have f1 : Fj rdJ μ μ1 := f1'
    have hx := hcnt μ1 f1
    subst hv
    refine ev_callP (cnm_knows (CNm_sm (dsm_fj f1) hc) hN hg d (by omega)) (fun v2 μ2 ⟨hm, hv2⟩ => ?_)
    subst hm
    by_cases q : knN N (nmL T n s)
    · have hv3 : v2 = 1 := by rw [hv2]; exact t01_pos q
      subst hv3
      refine ev_neg (by show ¬ (1 : Int) = 0; decide) (ev_callP (sX4_fail 3 s (by decide) b _ h1 d (by omega)) (fun v3 μ3 ⟨f3, h3⟩ => ?_))
      have f4 := fj_tr f1 f3
      have hx3 := hcnt μ3 f4
      exact newName_27 hk _ _ μ3 (by omega) (by omega) ⟨_, μ3, f4, rfl, hx3, Or.inr (Or.inl ⟨hn, q, h3⟩)⟩
    · have hv3 : v2 = 0 := by rw [hv2]; exact t01_neg q
      subst hv3
      exact ev_pos rfl (newName_27 hk _ _ μ2 (by omega) (by omega) ⟨_, μ2, f1, rfl, hx, Or.inl ⟨hn, q, rfl, h1⟩⟩)
  · refine ev_callP (sX4_takeName_er hT b μ h he d (by omega)) (fun v μ1 ⟨hv, f1', h1⟩ => ?_)
    have f1 : Fj rdJ μ μ1 := f1'
    have hx := hcnt μ1 f1
    have hcs := CNm_sm (dsm_fj (b := b) f1) hc
    have hb : ∀ j : Nat, j < 4 → j ≠ 2 → 0 ≤ μ1 (tw (!b) + 1) (j : Int) ∧ μ1 (tw (!b) + 1) (j : Int) ≤ 12 := fun j j4 j2 => by
      have a1 := (hcs j j4 j2).1
      have a2 := (hN j j4 j2).1
      omega
    have hk3 := fun (j : Nat) (j4 : j < 4) (j2 : j ≠ 2) => sX7_numberOf (j : Int) v (!b) b μ1 (by omega) (by omega) (hb j j4 j2).1 (hb j j4 j2).2
    obtain ⟨d', rfl⟩ : ∃ d', d = d' + 1 := ⟨d - 1, by omega⟩
    refine ev_callP (knows_gen v (!b) b μ1 _ _ _ (hk3 0 (by decide) (by decide) d' (by omega)) (hk3 1 (by decide) (by decide) d' (by omega)) (hk3 3 (by decide) (by decide) d' (by omega))) (fun v2 μ2 ⟨hm, hv2⟩ => ?_)
    subst hm
    refine ev_br (fun _ => newName_27 hk _ _ μ2 (by omega) (by omega) ⟨_, μ2, f1, rfl, hx, Or.inr (Or.inr ⟨e, he, h1⟩)⟩) (fun _ => ?_)
    refine ev_callP (sX4_fail_dead 3 s b _ h1 (d' + 1) (by omega)) (fun v3 μ3 ⟨f3, h3⟩ => ?_)
    have f4 := fj_tr f1 f3
    have hx3 := hcnt μ3 f4
    exact newName_27 hk _ _ μ3 (by omega) (by omega) ⟨_, μ3, f4, rfl, hx3, Or.inr (Or.inr ⟨e, he, h3⟩)⟩
/-- the number of an old name, or what is wrong -/
def olR (T : Int → Int) (n s : Int) (g : Bool) (L : List (List Int)) (r : Sum (Int × Int) (Int × Int × Bool)) : Prop := match r with
  | .inl e => naE T n s g e ∨ (nmO T n s g ∧ ixN L (nmL T n s) = -1 ∧ e = (3, s))
  | .inr (v, s', g') => nmO T n s g ∧ 0 ≤ v ∧ v = ixN L (nmL T n s) ∧ s' = nxS T n s ∧ g' = nxG T n s g
theorem olR_ex (T : Int → Int) (n s : Int) (g : Bool) (L : List (List Int)) : ∃ r, olR T n s g L r := by
  rcases nmO_or T n s g with hn | ⟨e, he⟩
  · rcases ixN_or L (nmL T n s) with ⟨q, -⟩ | ⟨q, -⟩
    · exact ⟨.inl (3, s), Or.inr ⟨hn, q, rfl⟩⟩
    · exact ⟨.inr (ixN L (nmL T n s), nxS T n s, nxG T n s g), hn, q, rfl, rfl, rfl⟩
  · exact ⟨.inl e, Or.inl he⟩
def olC (T : Int → Int) (n v : Int) (μ' : Nat → Int → Int) : Sum (Int × Int) (Int × Int × Bool) → Prop
  | .inl e => CDd T n μ' e
  | .inr (x, s', g') => v = x ∧ CLv T n μ' s' g'
theorem sX4_takeOldName {T : Int → Int} {n s : Int} {g : Bool} (hT : Tp T n) {k : Nat} (hk : k < 4) (k2 : k ≠ 2) (b : Bool) (μ : Nat → Int → Int) (h : CLv T n μ s g) {N : Nat → List (List Int)} (hc : CNm b μ N) (hN : NOk N) {r : Sum (Int × Int) (Int × Int × Bool)} (hr : olR T n s g (N k) r) : ∀ d, 4 ≤ d → Cal d 180 [mP 1, mI (k : Int)] b μ (fun v μ' => Fj rdJ μ μ' ∧ olC T n v μ' r) := deepC fun d hd => by
  refine cal_ev (fun r => call_X4_takeOldName d b μ (k : Int)) (ev_row (fun m => tX4_takeOldName_0 _ m b μ (k : Int)) ?_)
  rw [h.2.2.2.2.1.2.2.2.1]
  rcases r with e | ⟨x, s', g'⟩
  · rcases hr with he | ⟨hn, q, rfl⟩
    · refine ev_callP (sX4_takeName_er hT b μ h he d (by omega)) (fun v μ1 ⟨hv, f1', h1⟩ => ?_)
      have f1 : Fj rdJ μ μ1 := f1'
      have a1 := (CNm_sm (dsm_fj (b := b) f1) hc k hk k2).1
      have a2 := (hN k hk k2).1
      refine ev_call (sX7_numberOf (k : Int) v (!b) b μ1 (by omega) (by omega) (by omega) (by omega) d (by omega)) (ev_br (fun _ => ?_) (fun _ => ev_ret ⟨f1, h1⟩))
      exact ev_callP (sX4_fail_dead 3 s b _ h1 d (by omega)) (fun v3 μ3 ⟨f3, h3⟩ => ev_ret ⟨fj_tr f1 f3, h3⟩)
    · refine ev_callP (sX4_takeName_ok hT b μ h hn d (by omega)) (fun v μ1 ⟨hv, f1', h1⟩ => ?_)
      have f1 : Fj rdJ μ μ1 := f1'
      subst hv
      refine ev_call (cnm_num (CNm_sm (dsm_fj f1) hc) hN hk k2 (nmL_ok hT h.2.2.2.2.2 hn) d (by omega)) (ev_pos q ?_)
      exact ev_callP (sX4_fail 3 s (by decide) b _ h1 d (by omega)) (fun v3 μ3 ⟨f3, h3⟩ => ev_ret ⟨fj_tr f1 f3, h3⟩)
  · obtain ⟨hn, v0, rfl, rfl, rfl⟩ := hr
    refine ev_callP (sX4_takeName_ok hT b μ h hn d (by omega)) (fun v μ1 ⟨hv, f1', h1⟩ => ?_)
    have f1 : Fj rdJ μ μ1 := f1'
    subst hv
    exact ev_call (cnm_num (CNm_sm (dsm_fj f1) hc) hN hk k2 (nmL_ok hT h.2.2.2.2.2 hn) d (by omega)) (ev_neg (by show ¬ ixN (N k) (nmL T n s) = -1; omega) (ev_ret ⟨f1, rfl, h1⟩))
theorem sX4_takeOldName_dd {T : Int → Int} {n : Int} {e : Int × Int} {k : Nat} (hk : k < 4) (b : Bool) (μ : Nat → Int → Int) (h : CDd T n μ e) (c0 : 0 ≤ μ (tw (!b) + 1) (k : Int)) (c1 : μ (tw (!b) + 1) (k : Int) ≤ 12) : ∀ d, 4 ≤ d → Cal d 180 [mP 1, mI (k : Int)] b μ (fun v μ' => Fj rdJ μ μ' ∧ CDd T n μ' e) := deepC fun d hd => by
  refine cal_ev (fun r => call_X4_takeOldName d b μ (k : Int)) (ev_row (fun m => tX4_takeOldName_0 _ m b μ (k : Int)) ?_)
  refine ev_callP (sX4_takeName_dd b μ h d (by omega)) (fun v μ1 ⟨hv, f1', h1⟩ => ?_)
  have f1 : Fj rdJ μ μ1 := f1'
  have a1 : μ1 (tw (!b) + 1) = μ (tw (!b) + 1) := dsm_fj (b := b) f1 _ (by omega) (by omega)
  refine ev_call (sX7_numberOf (k : Int) v (!b) b μ1 (by omega) (by omega) (by rw [a1]; exact c0) (by rw [a1]; exact c1) d (by omega)) (ev_br (fun _ => ?_) (fun _ => ev_ret ⟨f1, h1⟩))
  exact ev_callP (sX4_fail_dead 3 _ b _ h1 d (by omega)) (fun v3 μ3 ⟨f3, h3⟩ => ev_ret ⟨fj_tr f1 f3, h3⟩)
