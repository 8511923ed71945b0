/-! ===== town: steps that go on behind a fault ===== -/
abbrev St : Type := Sum (Int × Int) (Int × Bool)
abbrev VR : Type := Sum (Int × Int) (Int × Int × Bool)
def CS (T : Int → Int) (n : Int) (μ : Nat → Int → Int) : St → Prop
  | .inl e => CDd T n μ e
  | .inr (s, g) => CLv T n μ s g
def RS (T : Int → Int) (n : Int) (ν : Nat → Int → Int) : St → Prop
  | .inl e => RBd ν e
  | .inr (s, g) => RSv T n ν s g
def stO : VR → St
  | .inl e => .inl e
  | .inr (_, s, g) => .inr (s, g)
def vOf : VR → Int
  | .inl _ => 0
  | .inr (x, _, _) => x
def lvV (r : VR) : Prop := ∃ x s g, r = .inr (x, s, g)
def lvS (st : St) : Prop := ∃ s g, st = .inr (s, g)
theorem CS_same {T : Int → Int} {n : Int} {μ μ' : Nat → Int → Int} {st : St} (h : CS T n μ st) (h1 : μ' 1 = μ 1) (h2 : μ' 2 = μ 2) (h3 : μ' 3 = μ 3) : CS T n μ' st := by
  rcases st with e | ⟨s, g⟩
  · exact CDd_same h h1 h2 h3
  · exact CLv_same h h1 h2 h3
theorem CS_tw {b : Bool} {T : Int → Int} {n : Int} {μ : Nat → Int → Int} {st : St} (h : CS T n μ st) {a : Nat} (ha : tw (!b) ≤ a) {i v : Int} : CS T n (m2 μ a i v) st := by
  have := tw_or (!b)
  exact CS_same h (m2_ne (by omega)) (m2_ne (by omega)) (m2_ne (by omega))
def wdS (T : Int → Int) (n w : Int) : St → St
  | .inl e => .inl e
  | .inr (s, g) => if tkW T n s g = w then .inr (nxS T n s, nxG T n s g) else .inl (1, s)
theorem cs_word {T : Int → Int} {n : Int} (hT : Tp T n) (w : Int) (hw : w ≠ -1) (b : Bool) (μ : Nat → Int → Int) {st : St} (h : CS T n μ st) : ∀ d, 3 ≤ d → Cal d 183 [mP 1, mI w] b μ (fun _ μ' => Fj rdJ μ μ' ∧ CS T n μ' (wdS T n w st)) := fun d hd => by
  rcases st with e | ⟨s, g⟩
  · exact sX4_takeWord_dd w hw b μ h d hd
  · by_cases q : tkW T n s g = w
    · rw [show wdS T n w (.inr (s, g)) = .inr (nxS T n s, nxG T n s g) from if_pos q]
      exact sX4_takeWord_ok hT w b μ h q d hd
    · rw [show wdS T n w (.inr (s, g)) = .inl (1, s) from if_neg q]
      exact sX4_takeWord_er w b μ h q d hd
theorem rs_word {T : Int → Int} {n : Int} (hT : Tp T n) {j : Nat} (hj : j < 22) (b : Bool) (ν : Nat → Int → Int) {st : St} (h : RS T n ν st) : ∀ d, 4 ≤ d → Cal d 14 [mP 96, mP (98 + j)] b ν (fun _ ν' => Fg [] lxJ ν ν' ∧ RS T n ν' (wdS T n (j : Int) st)) := fun d hd => by
  rcases st with e | ⟨s, g⟩
  · exact cal_of (bd_asks (98 + j) b ν h d (by omega)) ⟨fg_rfl, h⟩
  · refine cal_mono (sX10_asks hT hj b ν h d hd) (fun v ν' ⟨f, hh⟩ => ⟨f, ?_⟩)
    rcases hh with ⟨q, h1⟩ | ⟨q, h1⟩
    · rw [show wdS T n (j : Int) (.inr (s, g)) = .inr (nxS T n s, nxG T n s g) from if_pos q]; exact h1
    · rw [show wdS T n (j : Int) (.inr (s, g)) = .inl (1, s) from if_neg q]; exact h1
def vlC (v : Int) : VR → Prop
  | .inl _ => True
  | .inr (x, _, _) => v = x
def olS (T : Int → Int) (n : Int) (L : List (List Int)) : St → VR → Prop
  | .inl e, r => r = .inl e
  | .inr (s, g), r => olR T n s g L r
theorem olS_ex (T : Int → Int) (n : Int) (L : List (List Int)) (st : St) : ∃ r, olS T n L st r := by
  rcases st with e | ⟨s, g⟩
  · exact ⟨_, rfl⟩
  · exact olR_ex T n s g L
def NmL (L : List (List Int)) : Prop := L.length ≤ 12 ∧ ∀ w ∈ L, gdN w
def CNk (b : Bool) (μ : Nat → Int → Int) (k : Nat) (L : List (List Int)) : Prop := μ (tw (!b) + 1) (k : Int) = (L.length : Int) ∧ ∀ i : Nat, i < L.length → μ (tw (!b) + 3 + k) (i : Int) = pk5 (L.getD i [])
theorem CNk_sm {b : Bool} {μ μ' : Nat → Int → Int} {k : Nat} {L : List (List Int)} (h1 : μ' (tw (!b) + 1) (k : Int) = μ (tw (!b) + 1) (k : Int)) (h3 : μ' (tw (!b) + 3 + k) = μ (tw (!b) + 3 + k)) (h : CNk b μ k L) : CNk b μ' k L := ⟨by rw [h1]; exact h.1, fun i hi => by rw [h3]; exact h.2 i hi⟩
theorem cnk_num {b : Bool} {μ : Nat → Int → Int} {k : Nat} {L : List (List Int)} (h : CNk b μ k L) (hN : NmL L) (hk : k < 4) {w : List Int} (hw : gdN w) : ∀ d, 1 ≤ d → mCallN d 202 [mP (tw (!b)), mI (k : Int), mI (pk5 w)] (SH, μ, RHO b) = some (ixN L w, SH, μ, RHO b) := fun d hd => by
  obtain ⟨h1, h3⟩ := h
  obtain ⟨n1, n2⟩ := hN
  rw [sX7_numberOf (k : Int) (pk5 w) (!b) b μ (by omega) (by omega) (by omega) (by omega) d hd, h1, Int.toNat_natCast, Int.toNat_natCast]
  unfold ixN
  rw [fFirst_eq (g := fun i => if L.getD i.toNat [] = w then 1 else 0) (y := 1) L.length 0 (fun j j0 j1 => ?_)]
  obtain ⟨i, rfl⟩ : ∃ i : Nat, j = (i : Int) := ⟨j.toNat, by omega⟩
  rw [h3 i (by omega), Int.toNat_natCast]
  have hg := n2 _ (getD_memN (by omega : i < L.length))
  refine ⟨fun e => by rw [if_pos (pk5_inj hg.2.2 hw.2.2 e)], fun e => ?_⟩
  by_cases q : L.getD i [] = w
  · rw [q]
  · rw [if_neg q] at e; omega
theorem cs_old {T : Int → Int} {n : Int} (hT : Tp T n) {k : Nat} (hk : k < 4) (b : Bool) (μ : Nat → Int → Int) {st : St} (h : CS T n μ st) {L : List (List Int)} (hc : CNk b μ k L) (hN : NmL L) {r : VR} (hr : olS T n L st r) : ∀ d, 4 ≤ d → Cal d 180 [mP 1, mI (k : Int)] b μ (fun v μ' => Fj rdJ μ μ' ∧ vlC v r ∧ CS T n μ' (stO r)) := deepC fun d hd => by
  have c0 := hc.1
  have c1 := hN.1
  rcases st with e | ⟨s, g⟩
  · have hr' : r = .inl e := hr
    subst hr'
    exact cal_mono (sX4_takeOldName_dd hk b μ h (by omega) (by omega) (d + 1) (by omega)) (fun v μ' ⟨f, hh⟩ => ⟨f, trivial, hh⟩)
  have h' : CLv T n μ s g := h
  refine cal_ev (fun r => call_X4_takeOldName d b μ (k : Int)) (ev_row (fun m => tX4_takeOldName_0 _ m b μ (k : Int)) ?_)
  rw [h'.2.2.2.2.1.2.2.2.1]
  have t1 := tw_or (!b)
  rcases r with e | ⟨x, s', g'⟩
  · rcases hr with he | ⟨hn, q, rfl⟩
    · refine ev_callP (sX4_takeName_er hT b μ h' he d (by omega)) (fun v μ1 ⟨hv, f1', h1⟩ => ?_)
      have f1 : Fj rdJ μ μ1 := f1'
      have a1 : μ1 (tw (!b) + 1) = μ (tw (!b) + 1) := dsm_fj (b := b) f1 _ (by omega) (by omega)
      refine ev_call (sX7_numberOf (k : Int) v (!b) b μ1 (by omega) (by omega) (by rw [a1]; omega) (by rw [a1]; omega) d (by omega)) (ev_br (fun _ => ?_) (fun _ => ev_ret ⟨f1, trivial, h1⟩))
      exact ev_callP (sX4_fail_dead 3 s b _ h1 d (by omega)) (fun v3 μ3 ⟨f3, h3⟩ => ev_ret ⟨fj_tr f1 f3, trivial, h3⟩)
    · refine ev_callP (sX4_takeName_ok hT b μ h' hn d (by omega)) (fun v μ1 ⟨hv, f1', h1⟩ => ?_)
      have f1 : Fj rdJ μ μ1 := f1'
      subst hv
      have sm := dsm_fj (b := b) f1
      refine ev_call (cnk_num (CNk_sm (by rw [sm _ (by omega) (by omega)]) (sm _ (by omega) (by omega)) hc) hN hk (nmL_ok hT h'.2.2.2.2.2 hn) d (by omega)) (ev_pos q ?_)
      exact ev_callP (sX4_fail 3 s (by decide) b _ h1 d (by omega)) (fun v3 μ3 ⟨f3, h3⟩ => ev_ret ⟨fj_tr f1 f3, trivial, h3⟩)
  · obtain ⟨hn, v0, rfl, rfl, rfl⟩ := hr
    refine ev_callP (sX4_takeName_ok hT b μ h' hn d (by omega)) (fun v μ1 ⟨hv, f1', h1⟩ => ?_)
    have f1 : Fj rdJ μ μ1 := f1'
    subst hv
    have sm := dsm_fj (b := b) f1
    exact ev_call (cnk_num (CNk_sm (by rw [sm _ (by omega) (by omega)]) (sm _ (by omega) (by omega)) hc) hN hk (nmL_ok hT h'.2.2.2.2.2 hn) d (by omega)) (ev_neg (by show ¬ ixN L (nmL T n s) = -1; omega) (ev_ret ⟨f1, rfl, h1⟩))
theorem rs_old {T : Int → Int} {n : Int} (hT : Tp T n) (b : Bool) (ν : Nat → Int → Int) {st : St} (h : RS T n ν st) {N : Nat → List (List Int)} (hc : RNm ν N) (hN : NOk N) {k : Nat} (hk : k < 4) (k2 : k ≠ 2) {r : VR} (hr : olS T n (N k) st r) : ∀ d, 5 ≤ d → Cal d 96 [mP 96, mI (rk k)] b ν (fun v ν' => Fg [] lxJ ν ν' ∧ vlC v r ∧ RS T n ν' (stO r)) := fun d hd => by
  rcases st with e | ⟨s, g⟩
  · have hr' : r = .inl e := hr
    subst hr'
    exact cal_of (bd_oneOf ν h hc hN hk k2 d (by omega)) ⟨fg_rfl, trivial, h⟩
  · refine cal_mono (sX10_oneOf hT b ν h hc hN hk k2 hr d hd) (fun v ν' ⟨f, hh⟩ => ⟨f, ?_⟩)
    rcases r with e | ⟨x, s', g'⟩
    · exact ⟨trivial, hh.2⟩
    · exact ⟨hh.1, hh.2.2⟩
def nuS (T : Int → Int) (n lo hi : Int) : St → VR → Prop
  | .inl e, r => r = .inl e
  | .inr (s, g), .inl e => nmE T n s g lo hi e
  | .inr (s, g), .inr (x, s', g') => (tkK T n s g = 2 ∧ bhd T n s - s ≤ 4 ∧ lo ≤ nmN T n s ∧ nmN T n s ≤ hi) ∧ x = nmN T n s ∧ s' = nxS T n s ∧ g' = nxG T n s g
theorem nuS_ex (T : Int → Int) (n lo hi : Int) (st : St) : ∃ r, nuS T n lo hi st r := by
  rcases st with e | ⟨s, g⟩
  · exact ⟨_, rfl⟩
  · by_cases h1 : tkK T n s g = 2
    · by_cases h2 : bhd T n s - s ≤ 4
      · by_cases h3 : lo ≤ nmN T n s ∧ nmN T n s ≤ hi
        · exact ⟨.inr (nmN T n s, nxS T n s, nxG T n s g), ⟨h1, h2, h3⟩, rfl, rfl, rfl⟩
        · exact ⟨.inl (2, s), Or.inr (Or.inr ⟨h1, h2, h3, rfl⟩)⟩
      · exact ⟨.inl (1, s + 4), Or.inr (Or.inl ⟨h1, by omega, rfl⟩)⟩
    · exact ⟨.inl (1, s), Or.inl ⟨h1, rfl⟩⟩
theorem nmE_one {T : Int → Int} {n s lo hi : Int} {g : Bool} {e e' : Int × Int} (h : nmE T n s g lo hi e) (h' : nmE T n s g lo hi e') : e = e' := by
  rcases h with ⟨a, q⟩ | ⟨a, b, q⟩ | ⟨a, b, c, q⟩ <;> rcases h' with ⟨a', q'⟩ | ⟨a', b', q'⟩ | ⟨a', b', c', q'⟩ <;> first | (exfalso; omega) | (rw [q, q'])
theorem nmE_no {T : Int → Int} {n s lo hi : Int} {g : Bool} {e : Int × Int} (h : nmE T n s g lo hi e) : ¬ (tkK T n s g = 2 ∧ bhd T n s - s ≤ 4 ∧ lo ≤ nmN T n s ∧ nmN T n s ≤ hi) := fun ⟨h1, h2, h3, h4⟩ => by
  rcases h with ⟨a, q⟩ | ⟨a, b, q⟩ | ⟨a, b, c, q⟩
  · exact a h1
  · omega
  · exact c ⟨h3, h4⟩
theorem cs_num {T : Int → Int} {n : Int} (hT : Tp T n) (lo hi : Int) (b : Bool) (μ : Nat → Int → Int) {st : St} (h : CS T n μ st) {r : VR} (hr : nuS T n lo hi st r) : ∀ d, 3 ≤ d → Cal d 179 [mP 1, mI lo, mI hi] b μ (fun v μ' => Fj rdJ μ μ' ∧ vlC v r ∧ CS T n μ' (stO r)) := fun d hd => by
  rcases st with e | ⟨s, g⟩
  · have hr' : r = .inl e := hr
    subst hr'
    exact cal_mono (sX4_takeNumber_dd lo hi b μ h d hd) (fun v μ' ⟨_, f, hh⟩ => ⟨f, trivial, hh⟩)
  · rcases r with e | ⟨x, s', g'⟩
    · exact cal_mono (sX4_takeNumber_er hT lo hi b μ h hr d hd) (fun v μ' ⟨_, f, hh⟩ => ⟨f, trivial, hh⟩)
    · obtain ⟨⟨h1, h2, h3, h4⟩, rfl, rfl, rfl⟩ := hr
      exact cal_mono (sX4_takeNumber_ok hT lo hi b μ h h1 h2 h3 h4 d hd) (fun v μ' ⟨hv, f, hh⟩ => ⟨f, hv, hh⟩)
theorem rs_num {T : Int → Int} {n : Int} (hT : Tp T n) (lo hi : Int) (b : Bool) (ν : Nat → Int → Int) {st : St} (h : RS T n ν st) {r : VR} (hr : nuS T n lo hi st r) : ∀ d, 2 ≤ d → Cal d 93 [mP 96, mI lo, mI hi] b ν (fun v ν' => Fg [] lxJ ν ν' ∧ vlC v r ∧ RS T n ν' (stO r)) := fun d hd => by
  rcases st with e | ⟨s, g⟩
  · have hr' : r = .inl e := hr
    subst hr'
    exact cal_of (bd_number lo hi b ν h d (by omega)) ⟨fg_rfl, trivial, h⟩
  · refine cal_mono (sX10_number hT lo hi b ν h d hd) (fun v ν' ⟨_, f, hh⟩ => ⟨f, ?_⟩)
    rcases r with e | ⟨x, s', g'⟩
    · rcases hh with ⟨q, -⟩ | ⟨e', he', h1⟩
      · exact absurd q (nmE_no hr)
      · rw [← nmE_one hr he'] at h1; exact ⟨trivial, h1⟩
    · obtain ⟨q, rfl, rfl, rfl⟩ := hr
      rcases hh with ⟨-, hv, h1⟩ | ⟨e', he', -⟩
      · exact ⟨hv, h1⟩
      · exact absurd q (nmE_no he')
/-! back from the end: all was well -/
theorem wdS_lv {T : Int → Int} {n w : Int} (hT : Tp T n) (hw : 0 ≤ w) {st : St} {s' : Int} {g' : Bool} (h : wdS T n w st = .inr (s', g')) : ∃ s g, st = .inr (s, g) ∧ (VC T n s → VC T n s' ∧ s < s') := by
  rcases st with e | ⟨s, g⟩
  · cases h
  · refine ⟨s, g, rfl, fun hv => ?_⟩
    have h2 : (if tkW T n s g = w then (.inr (nxS T n s, nxG T n s g) : St) else .inl (1, s)) = .inr (s', g') := h
    by_cases q : tkW T n s g = w
    · rw [if_pos q] at h2
      cases h2
      have hx := nx_in hT hv
      exact ⟨hx.1, hx.2.2.1 (tkW_pos (g := g) hT hv (by omega)).2.1⟩
    · rw [if_neg q] at h2; cases h2
theorem stO_lv {r : VR} {s : Int} {g : Bool} (h : stO r = .inr (s, g)) : r = .inr (vOf r, s, g) := by
  rcases r with e | ⟨x, s', g'⟩
  · cases h
  · cases h; rfl
theorem olS_lv {T : Int → Int} {n : Int} (hT : Tp T n) {L : List (List Int)} {st : St} {x s' : Int} {g' : Bool} (h : olS T n L st (.inr (x, s', g'))) : ∃ s g, st = .inr (s, g) ∧ (0 ≤ x ∧ x < (L.length : Int)) ∧ (VC T n s → VC T n s' ∧ s < s') := by
  rcases st with e | ⟨s, g⟩
  · cases h
  · obtain ⟨hn, v0, hx, hs, hg⟩ := h
    refine ⟨s, g, rfl, ⟨v0, ?_⟩, fun hv => ?_⟩
    · rcases ixN_or L (nmL T n s) with ⟨q, -⟩ | ⟨-, q, -⟩ <;> omega
    · have hx := nx_in hT hv
      have := hx.2.2.1 (tkK1 hT hv hn.1.1).1
      rw [hs]; exact ⟨hx.1, this⟩
theorem nuS_lv {T : Int → Int} {n lo hi : Int} (hT : Tp T n) {st : St} {x s' : Int} {g' : Bool} (h : nuS T n lo hi st (.inr (x, s', g'))) : ∃ s g, st = .inr (s, g) ∧ (lo ≤ x ∧ x ≤ hi) ∧ (VC T n s → VC T n s' ∧ s < s') := by
  rcases st with e | ⟨s, g⟩
  · cases h
  · obtain ⟨⟨h1, h2, h3, h4⟩, hx, hs, hg⟩ := h
    refine ⟨s, g, rfl, ⟨by omega, by omega⟩, fun hv => ?_⟩
    have hx := nx_in hT hv
    have := hx.2.2.1 (tkK2 hT hv h1).1
    rw [hs]; exact ⟨hx.1, this⟩
theorem vlC_lv {v x s : Int} {g : Bool} {r : VR} (h : vlC v r) (hr : r = .inr (x, s, g)) : v = x := by
  rw [hr] at h; exact h
