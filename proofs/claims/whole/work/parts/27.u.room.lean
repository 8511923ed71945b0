/-! ===== town: the reference's draft; rooms ===== -/
def RMn (ν : Nat → Int → Int) (L : List (Int × Int × Int × Int)) : Prop := ∀ i : Nat, i < L.length → ν 128 (i : Int) = (L.getD i z4).1 ∧ ν 129 (i : Int) = (L.getD i z4).2.1 ∧ ν 130 (i : Int) = (L.getD i z4).2.2.1 ∧ ν 122 (i : Int) = (L.getD i z4).2.2.2
def RHg (ν : Nat → Int → Int) (M : Nat) (L : List (Int × Int × Int)) : Prop := ∀ i : Nat, i < M → ν 123 (i : Int) = t01 ((i : Int) ∈ L.map (fun x => x.2.2))
def RGt (ν : Nat → Int → Int) (L : List (Int × Int × Int)) : Prop := ν 120 3 = (L.length : Int) ∧ ∀ i : Nat, i < L.length → ν 124 (3 * (i : Int)) = (L.getD i z3).1 ∧ ν 124 (3 * (i : Int) + 1) = (L.getD i z3).2.1 ∧ ν 124 (3 * (i : Int) + 2) = (L.getD i z3).2.2
def RPp (ν : Nat → Int → Int) (L : List (Int × Int × Int × Int)) : Prop := ∀ i : Nat, i < L.length → ν 125 (4 * (i : Int)) = (L.getD i z4).1 ∧ ν 125 (4 * (i : Int) + 1) = (L.getD i z4).2.1 ∧ ν 125 (4 * (i : Int) + 2) = (L.getD i z4).2.2.1 ∧ ν 125 (4 * (i : Int) + 3) = (L.getD i z4).2.2.2
def RCd (ν : Nat → Int → Int) (C : List Int) : Prop := ν 96 41 = (C.length : Int) ∧ ∀ i : Nat, i < C.length → ν 126 (i : Int) = C.getD i 0
/-- the reference's draft holds these -/
def Rl (ν : Nat → Int → Int) : DT → Prop
  | (N, ML, GL, PL, C, H) => RNm ν N ∧ RMn ν ML ∧ RHg ν ML.length GL ∧ RGt ν GL ∧ RPp ν PL ∧ RCd ν C ∧ ν 96 38 = H
/-- from where on a cell holds what is told -/
def toldAt (a : Nat) : Int := if a = 120 then 4 else if a = 121 ∨ a = 124 then 36 else if a = 125 then 24 else if a = 126 then 1600 else 12
def drC : List Nat := [120, 121, 122, 123, 124, 125, 126, 127, 128, 129, 130]
def Rfr (J : List Int) (ν ν' : Nat → Int → Int) : Prop := Fg drC J ν ν' ∧ ∀ a, a ∈ drC → a ≠ 123 → a ≠ 127 → ∀ x, toldAt a ≤ x → ν' a x = ν a x
def stJ : List Int := [2, 4, 5, 6, 31, 38, 41, 43, 44, 48]
theorem rfr_rfl {J : List Int} {ν : Nat → Int → Int} : Rfr J ν ν := ⟨fg_rfl, fun _ _ _ _ _ _ => rfl⟩
theorem rfr_tr {J : List Int} {ν ν' ν2 : Nat → Int → Int} (h : Rfr J ν ν') (h2 : Rfr J ν' ν2) : Rfr J ν ν2 := ⟨fg_tr h.1 h2.1 (fun a ha => ha) (fun a ha => ha), fun a ha h3 h7 x hx => by rw [h2.2 a ha h3 h7 x hx, h.2 a ha h3 h7 x hx]⟩
theorem rfr_fg {J I : List Int} {ν ν' ν2 : Nat → Int → Int} (h : Rfr J ν ν') (h2 : Fg [] I ν' ν2) (hs : ∀ a, a ∈ I → a ∈ J) : Rfr J ν ν2 := ⟨fg_tr h.1 h2 (fun a ha => by simp at ha) hs, fun a ha h3 h7 x hx => by
  rw [h2.1 a (by simp) (fun q => by rw [q] at ha; exact absurd ha (by decide)), h.2 a ha h3 h7 x hx]⟩
theorem rfr_m2 {J : List Int} {ν ν' : Nat → Int → Int} {a : Nat} {i v : Int} (h : Rfr J ν ν') (ha : a ∈ drC) (hi : a = 123 ∨ a = 127 ∨ i < toldAt a) : Rfr J ν (m2 ν' a i v) := ⟨fg_m2 h.1 ha (fun q => by rw [q] at ha; exact absurd ha (by decide)), fun c hc h3 h7 x hx => by
  by_cases q : c = a
  · subst q
    rw [m2_at, if_neg (by rcases hi with q | q | q <;> omega), h.2 c hc h3 h7 x hx]
  · rw [m2_ne q, h.2 c hc h3 h7 x hx]⟩
theorem rfr_m96 {J : List Int} {ν ν' : Nat → Int → Int} {i v : Int} (h : Rfr J ν ν') (hi : i ∈ J) : Rfr J ν (m2 ν' 96 i v) := ⟨fg_m96 h.1 hi, fun c hc h3 h7 x hx => by
  rw [m2_ne (fun q => by rw [q] at hc; exact absurd hc (by decide)), h.2 c hc h3 h7 x hx]⟩
/-- what is read by the draft stays -/
theorem Rl_lex {ν ν' : Nat → Int → Int} {D : DT} (h : Fg [] lxJ ν ν') (hr : Rl ν D) : Rl ν' D := by
  obtain ⟨N, ML, GL, PL, C, H⟩ := D
  obtain ⟨c1, c2, c3, c4, c5, c6, c7⟩ := hr
  have e := fun a (ha : a ≠ 96) => h.1 a (by simp) ha
  unfold RMn at c2
  unfold RHg at c3
  unfold RGt at c4
  unfold RPp at c5
  unfold RCd at c6
  refine ⟨RNm_sm (e 120 (by decide)) (e 121 (by decide)) c1, ?_, ?_, ?_, ?_, ?_, by rw [h.2 38 (by decide)]; exact c7⟩
  · unfold RMn; rw [e 128 (by decide), e 129 (by decide), e 130 (by decide), e 122 (by decide)]; exact c2
  · unfold RHg; rw [e 123 (by decide)]; exact c3
  · unfold RGt; rw [e 120 (by decide), e 124 (by decide)]; exact c4
  · unfold RPp; rw [e 125 (by decide)]; exact c5
  · unfold RCd; rw [e 126 (by decide), h.2 41 (by decide)]; exact c6
abbrev SR : Type := Sum (Int × Int) (DT × Int × Bool)
def CSS (b : Bool) (T : Int → Int) (n : Int) (μ0 μ : Nat → Int → Int) : SR → Prop
  | .inl e => Dfr b μ0 μ ∧ CDd T n μ e
  | .inr (D, s, g) => Dfr b μ0 μ ∧ CLv T n μ s g ∧ Cl b μ D
def RSS (T : Int → Int) (n : Int) (ν0 ν : Nat → Int → Int) : SR → Prop
  | .inl e => Rfr stJ ν0 ν ∧ RBd ν e
  | .inr (D, s, g) => Rfr stJ ν0 ν ∧ RSv T n ν s g ∧ Rl ν D
def cdL : DT → List Int
  | (_, _, _, _, C, _) => C
def SOk (T : Int → Int) (n s : Int) : SR → Prop
  | .inl _ => True
  | .inr (D, s', _) => VC T n s' ∧ s < s' ∧ DOk D ∧ ((cdL D).length : Int) ≤ s'
def JS (b bx : Bool) (T : Int → Int) (n : Int) (zc zr : Nat) (D : DT) (s : Int) (g : Bool) (r : SR) : Prop := (∀ d, 200 ≤ d → ∀ μ, CLv T n μ s g → Cl b μ D → Cal d zc [mP 1] b μ (fun _ μ' => CSS b T n μ μ' r)) ∧ (∀ d, 20 ≤ d → ∀ ν, RSv T n ν (nxS T n s) (nxG T n s g) → Rl ν D → Cal d zr [mP 96, mI s] bx ν (fun _ ν' => RSS T n ν ν' r)) ∧ SOk T n s r
def updN (N : Nat → List (List Int)) (k : Nat) (w : List Int) : Nat → List (List Int) := fun j => if j = k then N j ++ [w] else N j
theorem updN_at (N : Nat → List (List Int)) (k : Nat) (w : List Int) : updN N k w k = N k ++ [w] := if_pos rfl
theorem updN_ne {N : Nat → List (List Int)} {k j : Nat} {w : List Int} (h : j ≠ k) : updN N k w j = N j := if_neg h
theorem getD_sn {α : Type} {L : List α} {x z : α} {i : Nat} (h : i < (L ++ [x]).length) : (L ++ [x]).getD i z = if i = L.length then x else L.getD i z := by
  rw [List.length_append, List.length_singleton] at h
  by_cases q : i = L.length
  · subst q
    rw [if_pos rfl, List.getD_eq_getElem?_getD, List.getElem?_append_right (Nat.le_refl _), Nat.sub_self]; rfl
  · rw [if_neg q, List.getD_eq_getElem?_getD, List.getD_eq_getElem?_getD, List.getElem?_append_left (by omega)]
theorem CNm_put {b : Bool} {μ : Nat → Int → Int} {N : Nat → List (List Int)} (h : CNm b μ N) {k : Nat} (hk : k < 4) (k2 : k ≠ 2) (w : List Int) : CNm b (mNm b k (pk5 w) μ) (updN N k w) := fun j hj j2 => by
  obtain ⟨h1, h3⟩ := h j hj j2
  have hc := (h k hk k2).1
  have e1 : ∀ x, mNm b k (pk5 w) μ (tw (!b) + 1) x = if x = (k : Int) then ((N k).length : Int) + 1 else μ (tw (!b) + 1) x := fun x => by
    unfold mNm; rw [m2_at, hc]
    by_cases q : x = (k : Int)
    · rw [if_pos q, if_pos q]
    · rw [if_neg q, if_neg q, m2_ne (by omega)]
  have e3 : mNm b k (pk5 w) μ (tw (!b) + 3 + j) = m2 μ (tw (!b) + 3 + k) ((N k).length : Int) (pk5 w) (tw (!b) + 3 + j) := by
    unfold mNm; rw [m2_ne (by omega), hc]
  rw [e1, e3]
  by_cases q : j = k
  · subst q
    rw [if_pos rfl, updN_at]
    refine ⟨by rw [List.length_append, List.length_singleton]; omega, fun i hi => ?_⟩
    rw [m2_at, getD_sn hi]
    by_cases c : i = (N j).length
    · rw [if_pos (by omega), if_pos c]
    · rw [if_neg (by omega), if_neg c]
      exact h3 i (by rw [List.length_append, List.length_singleton] at hi; omega)
  · rw [if_neg (by omega), updN_ne q]
    refine ⟨h1, fun i hi => ?_⟩
    rw [m2_ne (by omega)]
    exact h3 i hi
theorem mNm_ne {b : Bool} {k : Nat} {x : Int} {μ : Nat → Int → Int} {a : Nat} (h1 : a ≠ tw (!b) + 1) (h2 : a ≠ tw (!b) + 3 + k) : mNm b k x μ a = μ a := by
  unfold mNm; rw [m2_ne h1, m2_ne h2]
theorem dfr_mNm {b : Bool} {μ μ' : Nat → Int → Int} {k : Nat} {x : Int} (hk : k < 4) (h : Dfr b μ μ') : Dfr b μ (mNm b k x μ') := dfr_m2 (dfr_m2 h (by omega)) (by omega)
theorem CLv_mNm {b : Bool} {T : Int → Int} {n s : Int} {g : Bool} {μ : Nat → Int → Int} {k : Nat} {x : Int} (h : CLv T n μ s g) : CLv T n (mNm b k x μ) s g := CLv_tw (b := b) (CLv_tw (b := b) h (by omega)) (by omega)
theorem CDd_mNm {b : Bool} {T : Int → Int} {n : Int} {e : Int × Int} {μ : Nat → Int → Int} {k : Nat} {x : Int} (h : CDd T n μ e) : CDd T n (mNm b k x μ) e := CDd_tw (b := b) (CDd_tw (b := b) h (by omega)) (by omega)
theorem CMn_mNm {b : Bool} {μ : Nat → Int → Int} {k : Nat} {x : Int} {L : List (Int × Int × Int × Int)} (hk : k < 4) (h : CMn b μ L) : CMn b (mNm b k x μ) L := CMn_sm (fun a ha => mNm_ne (by omega) (by omega)) h
theorem CGt_mNm {b : Bool} {μ : Nat → Int → Int} {k : Nat} {x : Int} {L : List (Int × Int × Int)} (hk : k < 4) (k2 : k ≠ 2) (h : CGt b μ L) : CGt b (mNm b k x μ) L := CGt_sm (by unfold mNm; rw [m2_at, if_neg (by omega), m2_ne (by omega)]) (fun a ha => mNm_ne (by omega) (by omega)) h
theorem CPp_mNm {b : Bool} {μ : Nat → Int → Int} {k : Nat} {x : Int} {L : List (Int × Int × Int × Int)} (hk : k < 4) (h : CPp b μ L) : CPp b (mNm b k x μ) L := CPp_sm (fun a ha => mNm_ne (by omega) (by omega)) h
theorem CCd_mNm {b : Bool} {μ : Nat → Int → Int} {k : Nat} {x : Int} {C : List Int} (hk : k < 4) (h : CCd b μ C) : CCd b (mNm b k x μ) C := CCd_sm (by rw [mNm_ne (by omega) (by omega)]) (mNm_ne (by omega) (by omega)) h
theorem NOk_put {N : Nat → List (List Int)} (h : NOk N) {k : Nat} {w : List Int} (hw : gdN w) (hl : (N k).length < 12) : NOk (updN N k w) := fun j hj j2 => by
  obtain ⟨h1, h3⟩ := h j hj j2
  by_cases q : j = k
  · subst q
    rw [updN_at, List.length_append, List.length_singleton]
    refine ⟨by omega, fun x hx => ?_⟩
    rcases List.mem_append.1 hx with hx | hx
    · exact h3 x hx
    · rw [List.mem_singleton.1 hx]; exact hw
  · rw [updN_ne q]; exact ⟨h1, h3⟩
/-- a new name, or what is wrong -/
def nwR (T : Int → Int) (n s : Int) (g : Bool) (N : Nat → List (List Int)) (r : Sum (Int × Int) Unit) : Prop := match r with
  | .inl e => naE T n s g e ∨ (nmO T n s g ∧ knN N (nmL T n s) ∧ e = (3, s))
  | .inr _ => nmO T n s g ∧ ¬ knN N (nmL T n s)
theorem nwR_ex (T : Int → Int) (n s : Int) (g : Bool) (N : Nat → List (List Int)) : ∃ r, nwR T n s g N r := by
  rcases nmO_or T n s g with hn | ⟨e, he⟩
  · by_cases q : knN N (nmL T n s)
    · exact ⟨.inl (3, s), Or.inr ⟨hn, q, rfl⟩⟩
    · exact ⟨.inr (), hn, q⟩
  · exact ⟨.inl e, Or.inl he⟩
def nwC (b : Bool) (T : Int → Int) (n s : Int) (g : Bool) (k : Nat) (μ μ' : Nat → Int → Int) : Sum (Int × Int) Unit → Prop
  | .inl e => ∃ x μ1, Fj rdJ μ μ1 ∧ μ' = mNm b k x μ1 ∧ CDd T n μ' e
  | .inr _ => ∃ μ1, Fj rdJ μ μ1 ∧ μ' = mNm b k (pk5 (nmL T n s)) μ1 ∧ CLv T n μ' (nxS T n s) (nxG T n s g)
theorem cl_new {T : Int → Int} {n s : Int} {g : Bool} (hT : Tp T n) {k : Nat} (hk : k < 4) (k2 : k ≠ 2) (b : Bool) (μ : Nat → Int → Int) (h : CLv T n μ s g) {N : Nat → List (List Int)} (hc : CNm b μ N) (hN : NOk N) (hl : (N k).length < 12) {r : Sum (Int × Int) Unit} (hr : nwR T n s g N r) : ∀ d, 4 ≤ d → Cal d 178 [mP 1, mI (k : Int)] b μ (fun v μ' => v = ((N k).length : Int) ∧ nwC b T n s g k μ μ' r) := fun d hd => by
  refine cal_mono (sX4_takeNewName hT hk k2 b μ h hc hN hl d hd) (fun v μ' ⟨x, μ1, f1, hm, hv, hh⟩ => ⟨hv, ?_⟩)
  rcases r with e | u
  · rcases hr with he | ⟨hn, q, rfl⟩
    · rcases hh with ⟨hn', -⟩ | ⟨hn', -⟩ | ⟨e', he', h1⟩
      · exact absurd hn' (naE_no he)
      · exact absurd hn' (naE_no he)
      · rw [← naE_one he he'] at h1
        exact ⟨x, μ1, f1, hm, by rw [hm]; exact CDd_mNm h1⟩
    · rcases hh with ⟨-, q', -⟩ | ⟨-, -, h1⟩ | ⟨e', he', h1⟩
      · exact absurd q q'
      · exact ⟨x, μ1, f1, hm, by rw [hm]; exact CDd_mNm h1⟩
      · exact absurd hn (naE_no he')
  · obtain ⟨hn, q⟩ := hr
    rcases hh with ⟨-, -, hx, h1⟩ | ⟨-, q', -⟩ | ⟨e', he', h1⟩
    · exact ⟨μ1, f1, by rw [hm, hx], by rw [hm]; exact CLv_mNm h1⟩
    · exact absurd q' q
    · exact absurd hn (naE_no he')
def nwQ (T : Int → Int) (n s : Int) (g : Bool) (v : Int) (ν' : Nat → Int → Int) : Sum (Int × Int) Unit → Prop
  | .inl e => RBd ν' e
  | .inr _ => v = pk27 0 (nmL T n s) ∧ RSv T n ν' (nxS T n s) (nxG T n s g)
theorem rf_new {T : Int → Int} {n s : Int} {g : Bool} (hT : Tp T n) (b : Bool) (ν : Nat → Int → Int) (h : RSv T n ν s g) {N : Nat → List (List Int)} (hc : RNm ν N) (hN : NOk N) {r : Sum (Int × Int) Unit} (hr : nwR T n s g N r) : ∀ d, 5 ≤ d → Cal d 89 [mP 96] b ν (fun v ν' => Fg [] lxJ ν ν' ∧ nwQ T n s g v ν' r) := fun d hd => by
  refine cal_mono (sX10_newName hT b ν h hc hN d hd) (fun v ν' ⟨f1, hh⟩ => ⟨f1, ?_⟩)
  rcases r with e | u
  · rcases hr with he | ⟨hn, q, rfl⟩
    · rcases hh with ⟨hn', -⟩ | ⟨hn', -⟩ | ⟨e', he', h1⟩
      · exact absurd hn' (naE_no he)
      · exact absurd hn' (naE_no he)
      · rw [← naE_one he he'] at h1; exact h1
    · rcases hh with ⟨-, q', -⟩ | ⟨-, -, h1⟩ | ⟨e', he', h1⟩
      · exact absurd q q'
      · exact h1
      · exact absurd hn (naE_no he')
  · obtain ⟨hn, q⟩ := hr
    rcases hh with ⟨-, -, hx, h1⟩ | ⟨-, q', -⟩ | ⟨e', he', h1⟩
    · exact ⟨hx, h1⟩
    · exact absurd q' q
    · exact absurd hn (naE_no he')
theorem RNm_put {ν ν' : Nat → Int → Int} {N : Nat → List (List Int)} (h : RNm ν N) {k : Nat} (hk : k < 4) (k2 : k ≠ 2) (hl : (N k).length < 12) (hN : NOk N) (w : List Int) (h1 : ∀ j, ν' 120 j = if j = rk k then ((N k).length : Int) + 1 else ν 120 j) (h2 : ∀ j, j < 36 → ν' 121 j = if j = 12 * rk k + ((N k).length : Int) then pk27 0 w else ν 121 j) : RNm ν' (updN N k w) := fun j hj j2 => by
  obtain ⟨a1, a3⟩ := h j hj j2
  have hjr := rk_in hj j2
  have hkr := rk_in hk k2
  have hjl := (hN j hj j2).1
  have hjk : j ≠ k → rk j ≠ rk k := fun q => by unfold rk; split <;> split <;> omega
  by_cases q : j = k
  · subst q
    rw [h1, if_pos rfl, updN_at]
    refine ⟨by rw [List.length_append, List.length_singleton]; omega, fun i hi => ?_⟩
    have hi' := hi
    rw [List.length_append, List.length_singleton] at hi'
    rw [h2 _ (by omega), getD_sn hi]
    by_cases c : i = (N j).length
    · rw [if_pos (by omega), if_pos c]
    · rw [if_neg (by omega), if_neg c]
      exact a3 i (by omega)
  · have := hjk q
    rw [h1, if_neg (by omega), updN_ne q]
    refine ⟨a1, fun i hi => ?_⟩
    rw [h2 _ (by omega), if_neg (by omega)]
    exact a3 i hi
