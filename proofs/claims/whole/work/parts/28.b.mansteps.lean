/-! ===== town: men, the steps ===== -/
def stR : CR → St
  | .inl e => .inl e
  | .inr (_, s, g) => .inr (s, g)
def lsC : CR → List Int
  | .inl _ => []
  | .inr (L, _, _) => L
def VS (T : Int → Int) (n : Int) (st : St) : Prop := ∀ s g, st = .inr (s, g) → VC T n s
theorem VS_wd {T : Int → Int} {n w : Int} (hT : Tp T n) (hw : 0 ≤ w) {st : St} (h : VS T n st) : VS T n (wdS T n w st) := fun s' g' q => by
  obtain ⟨s, g, e, c⟩ := wdS_lv hT hw q
  exact (c (h s g e)).1
/-- a test, a sum -/
def tsS (b bx : Bool) (T : Int → Int) (n : Int) : St → CR → Prop
  | .inl e, r => r = .inl e
  | .inr (s, g), r => J0 b bx T n 0 0 s g r
def suS (b bx : Bool) (T : Int → Int) (n : Int) : St → CR → Prop
  | .inl e, r => r = .inl e
  | .inr (s, g), r => J2 b bx T n 0 0 s g r
theorem tsS_ex (b bx : Bool) {T : Int → Int} {n : Int} (hT : Tp T n) {st : St} (hv : VS T n st) : ∃ r, tsS b bx T n st r := by
  rcases st with e | ⟨s, g⟩
  · exact ⟨_, rfl⟩
  · have h := hv s g rfl
    exact (J_tests b bx hT (n - s).toNat s g 0 h (by omega) (by decide)).2.2 0 (Or.inl rfl)
theorem suS_ex (b bx : Bool) {T : Int → Int} {n : Int} (hT : Tp T n) {st : St} (hv : VS T n st) : ∃ r, suS b bx T n st r := by
  rcases st with e | ⟨s, g⟩
  · exact ⟨_, rfl⟩
  · have h := hv s g rfl
    exact (J_sums b bx hT (n - s).toNat s g 0 h (by omega) (by decide)).2.2 0 (Or.inl rfl)
def coL (T : Int → Int) (n : Int) (t : Bool) (st : St) (r : CR) : Prop := ∀ L s' g', r = .inr (L, s', g') → ∃ s g, st = .inr (s, g) ∧ VC T n s' ∧ s ≤ s' ∧ (L.length : Int) ≤ s' - s ∧ TyL L [] [t]
theorem FJ_co {T : Int → Int} {n : Int} {t : Bool} {h : Nat} {s : Int} {g : Bool} {r : CR} (hh : h ≤ 64) (hf : FJ T n t h 0 s r) : coL T n t (.inr (s, g)) r := fun L s' g' q => by
  obtain ⟨a, c, d⟩ := FJ_l hf L s' g' q
  rw [q] at hf
  have := hf.2.2.2 [] (by simpa using hh)
  exact ⟨s, g, rfl, a, c, d, this⟩
theorem tsS_co {b bx : Bool} {T : Int → Int} {n : Int} {st : St} {r : CR} (h : tsS b bx T n st r) : coL T n true st r := by
  rcases st with e | ⟨s, g⟩
  · intro L s' g' q; rw [show r = .inl e from h] at q; cases q
  · exact FJ_co (by decide) h.2.2.1
theorem suS_co {b bx : Bool} {T : Int → Int} {n : Int} {st : St} {r : CR} (h : suS b bx T n st r) : coL T n false st r := by
  rcases st with e | ⟨s, g⟩
  · intro L s' g' q; rw [show r = .inl e from h] at q; cases q
  · exact FJ_co (by decide) h.2.2.1
theorem VS_co {T : Int → Int} {n : Int} {t : Bool} {st : St} {r : CR} (h : coL T n t st r) : VS T n (stR r) := fun s g q => by
  rcases r with e | ⟨L, s', g'⟩
  · cases q
  · cases q
    obtain ⟨s, g, -, hv, -⟩ := h L _ _ rfl
    exact hv
/-- what a chain leaves, in the class -/
def ChC (b : Bool) (T : Int → Int) (n : Int) (μ μ' : Nat → Int → Int) (r : CR) : Prop := Xf b μ μ' ∧ 0 ≤ μ' (tw (!b)) 13 ∧ CS T n μ' (stR r) ∧ ∀ L s g, r = .inr (L, s, g) → App b μ μ' L
theorem CSt_Ch {b : Bool} {T : Int → Int} {n : Int} {μ μ' : Nat → Int → Int} {r : CR} (h0 : 0 ≤ μ (tw (!b)) 13) (h : CSt b T n μ μ' r) : ChC b T n μ μ' r := by
  rcases r with e | ⟨L, s, g⟩
  · exact ⟨h.1, h.2.1, h.2.2, fun L s g q => by cases q⟩
  · have ha := h.2.1.1
    exact ⟨h.1, by omega, h.2.2, fun L s g q => by cases q; exact h.2.1⟩
theorem cs_test {b bx : Bool} {T : Int → Int} {n : Int} (μ : Nat → Int → Int) {st : St} {r : CR} (hr : tsS b bx T n st r) (hv : VS T n st) (h : CS T n μ st) (h0 : 0 ≤ μ (tw (!b)) 13) (h1 : ∀ s g, st = .inr (s, g) → μ (tw (!b)) 13 ≤ s) : ∀ d, 198 ≤ d → Cal d 167 [mP 1, mI 0, mI 0] b μ (fun _ μ' => ChC b T n μ μ' r) := fun d hd => by
  rcases st with e | ⟨s, g⟩
  · rw [show r = .inl e from hr]
    exact cal_mono (dd_chain0 0 d (by omega) μ e h h0) (fun v μ' ⟨a1, a2, a3⟩ => ⟨a1, a2, a3, fun L s g q => by cases q⟩)
  · exact cal_mono (cl_chain hr.1 (hv s g rfl).1 d (by show dp 0 + 4 + 1 ≤ d; unfold dp; omega) μ h h0 (h1 s g rfl)) (fun v μ' hh => CSt_Ch h0 hh)
theorem cs_sum {b bx : Bool} {T : Int → Int} {n : Int} (μ : Nat → Int → Int) {st : St} {r : CR} (hr : suS b bx T n st r) (hv : VS T n st) (h : CS T n μ st) (h0 : 0 ≤ μ (tw (!b)) 13) (h1 : ∀ s g, st = .inr (s, g) → μ (tw (!b)) 13 ≤ s) : ∀ d, 198 ≤ d → Cal d 167 [mP 1, mI 2, mI 0] b μ (fun _ μ' => ChC b T n μ μ' r) := fun d hd => by
  rcases st with e | ⟨s, g⟩
  · rw [show r = .inl e from hr]
    exact cal_mono (dd_chain2 0 d (by omega) μ e h h0) (fun v μ' ⟨a1, a2, a3⟩ => ⟨a1, a2, a3, fun L s g q => by cases q⟩)
  · exact cal_mono (cl_chain hr.1 (hv s g rfl).1 d (by show dp 0 + 1 + 1 ≤ d; unfold dp; omega) μ h h0 (h1 s g rfl)) (fun v μ' hh => CSt_Ch h0 hh)
theorem CCd_app {b : Bool} {μ μ' : Nat → Int → Int} {C L : List Int} (h : CCd b μ C) (ha : App b μ μ' L) : CCd b μ' (C ++ L) := by
  obtain ⟨h1, h2⟩ := h
  obtain ⟨a1, a2, a3⟩ := ha
  refine ⟨by rw [a1, h1, List.length_append]; omega, fun i hi => ?_⟩
  rw [List.length_append] at hi
  by_cases q : i < C.length
  · rw [a2 _ (by omega), h2 i q, List.getD_eq_getElem?_getD, List.getD_eq_getElem?_getD, List.getElem?_append_left q]
  · have := a3 (i - C.length) (by omega)
    rw [h1, show (C.length : Int) + ((i - C.length : Nat) : Int) = (i : Int) by omega] at this
    rw [this, List.getD_eq_getElem?_getD, List.getD_eq_getElem?_getD, List.getElem?_append_right (by omega)]
/-! the reference -/
theorem RS_fg {T : Int → Int} {n : Int} {ν ν' : Nat → Int → Int} {st : St} {L : List Nat} {J : List Int} (h : RS T n ν st) (hf : Fg L J ν ν') (hL : ∀ a, a ∈ L → 120 ≤ a) (hJ : ∀ j, j ∈ J → j ≠ 2 ∧ j ≠ 3 ∧ j ≠ 4 ∧ j ≠ 5 ∧ j ≠ 6) : RS T n ν' st := by
  have e : ∀ j, j = 2 ∨ j = 3 ∨ j = 4 ∨ j = 5 ∨ j = 6 → ν' 96 j = ν 96 j := fun j hj => hf.2 j (fun q => by have := hJ j q; omega)
  rcases st with x | ⟨s, g⟩
  · obtain ⟨h1, h2, h3⟩ := h
    exact ⟨by rw [e 5 (by omega)]; exact h1, h2, by rw [e 6 (by omega)]; exact h3⟩
  · obtain ⟨h1, h2, h3, h4, h5, h6, h7, h8⟩ := h
    exact ⟨by rw [e 5 (by omega)]; exact h1, by rw [e 6 (by omega)]; exact h2, by rw [e 3 (by omega)]; exact h3, fun i i0 i1 => by rw [hf.1 97 (fun q => by have := hL _ q; omega) (by decide)]; exact h4 i i0 i1, fun j hj i hi => by rw [hf.1 (98 + j) (fun q => by have := hL _ q; omega) (by omega)]; exact h5 j hj i hi, by rw [e 2 (by omega)]; exact h6, h7, by rw [e 4 (by omega)]; exact h8⟩
def clR (ν : Nat → Int → Int) : Nat → Int → Int := m2 (m2 (m2 ν 96 43 0) 96 44 0) 96 48 0
theorem sX10_clears (b : Bool) (ν : Nat → Int → Int) : ∀ d, 1 ≤ d → mCallN d 22 [mP 96] (SH, ν, RHO b) = some (0, SH, clR ν, RHO b) := deep fun d _ =>
  cal_eq (cal_ev (fun r => call_X10_clears d b ν) (ev_row (fun m => tX10_clears_0 _ m b ν) (ev_ret ⟨rfl, rfl⟩)))
theorem clR_fg (ν : Nat → Int → Int) : Fg [] [43, 44, 48] ν (clR ν) := fg_m96 (fg_m96 (fg_m96 fg_rfl (by decide)) (by decide)) (by decide)
theorem clR_at (ν : Nat → Int → Int) : clR ν 96 43 = 0 ∧ clR ν 96 44 = 0 ∧ clR ν 96 48 = 0 := by
  unfold clR
  refine ⟨?_, ?_, ?_⟩
  · rw [m2_at, if_neg (by decide), m2_at, if_neg (by decide), m2_at, if_pos rfl]
  · rw [m2_at, if_neg (by decide), m2_at, if_pos rfl]
  · rw [m2_at, if_pos rfl]
/-- what a chain leaves, in the reference -/
def ChR (T : Int → Int) (n : Int) (ν ν' : Nat → Int → Int) (r : CR) : Prop := Fg [126, 127] rfJ ν ν' ∧ (∀ x, 1600 ≤ x → ν' 126 x = ν 126 x) ∧ RS T n ν' (stR r) ∧ ∀ L s g, r = .inr (L, s, g) → ν' 96 41 = ν 96 41 + (L.length : Int) ∧ (∀ i : Nat, i < L.length → ν' 126 (ν 96 41 + (i : Int)) = L.getD i 0) ∧ ∀ x, x < ν 96 41 → ν' 126 x = ν 126 x
theorem RPo_Ch {T : Int → Int} {n : Int} {ν ν' : Nat → Int → Int} {r : CR} {k : Int} (h : RPo T n ν (ν 96 41) 0 k [] 0 [] ν' r) : ChR T n ν ν' r := by
  rcases r with e | ⟨L, s, g⟩
  · obtain ⟨h1, h2, h3, h4⟩ := h
    exact ⟨h1, h3, h2, fun L s g q => by cases q⟩
  · obtain ⟨h1, h2, h3, h4, h5, h6, h7⟩ := h
    rw [List.nil_append] at h5
    exact ⟨h1, fun x hx => h6 x (Or.inr hx), h2, fun L s g q => by cases q; exact ⟨h5.1, h5.2, fun x hx => h6 x (Or.inl hx)⟩⟩
theorem RX_start {T : Int → Int} {n : Int} {ν : Nat → Int → Int} {s : Int} {g : Bool} (h : RSv T n ν s g) (h3 : ν 96 43 = 0) (h4 : ν 96 44 = 0) (h8 : ν 96 48 = 0) : RX T n ν (ν 96 41) 0 ν s g [] 0 [] := ⟨fg_rfl, h, ⟨h3, fun i hi => by simp at hi⟩, h4, ⟨by simp, fun i hi => by simp at hi⟩, fun _ _ => rfl, h8⟩
theorem rs_test {b bx : Bool} {T : Int → Int} {n : Int} (hT : Tp T n) (ν : Nat → Int → Int) {s : Int} {g : Bool} {r : CR} (hr : tsS b bx T n (.inr (s, g)) r) (h : RSv T n ν s g) (h3 : ν 96 43 = 0) (h4 : ν 96 44 = 0) (h8 : ν 96 48 = 0) (h0 : 0 ≤ ν 96 41) (h1 : ν 96 41 + 4 ≤ s) : ∀ d, 9 ≤ d → Cal d 126 [mP 96] bx ν (fun _ ν' => ChR T n ν ν' r) := fun d hd =>
  cal_mono (sX10_test hT hr.2.1 hr.2.2.2 (FJ_l hr.2.2.1) h0 (C := []) (by simpa using h1) ν (RX_start h h3 h4 h8) d hd) (fun v ν' hh => RPo_Ch hh)
theorem bd_sums {b : Bool} {e : Int × Int} (ν : Nat → Int → Int) (h : RBd ν e) : ∀ d, 1 ≤ d → mCallN d 119 [mP 96] (SH, ν, RHO b) = some (0, SH, m2 (m2 ν 96 48 (ν 96 43)) 96 48 (ν 96 48), RHO b) := deep fun d _ => by
  have h5 : ¬ m2 ν 96 48 (ν 96 43) 96 5 = 0 := by rw [m2_at, if_neg (by decide), h.1]; exact h.2.1
  exact cal_eq (cal_ev (fun r => call_X10_sumsTold d b ν) (ev_row (fun m => tX10_sumsTold_0 _ m b ν) (ev_row (fun m => tX10_sumsTold_15 _ m b _ _ _) (ev_neg (by decide) (ev_neg h5 (ev_row (fun m => tX10_sumsTold_53 _ m b _ _ _) (ev_neg h5 (ev_row (fun m => tX10_sumsTold_78 _ m b _ _ _) (ev_ret ⟨rfl, rfl⟩)))))))))
theorem rs_sum {b bx : Bool} {T : Int → Int} {n : Int} (hT : Tp T n) (ν : Nat → Int → Int) {st : St} {r : CR} (hr : suS b bx T n st r) (h : RS T n ν st) (h3 : ν 96 43 = 0) (h4 : ν 96 44 = 0) (h8 : ν 96 48 = 0) (h1 : ∀ s g, st = .inr (s, g) → 0 ≤ ν 96 41 ∧ ν 96 41 + 4 ≤ s) : ∀ d, 7 ≤ d → Cal d 119 [mP 96] bx ν (fun _ ν' => ChR T n ν ν' r) := fun d hd => by
  rcases st with e | ⟨s, g⟩
  · rw [show r = .inl e from hr]
    have hf : Fg [] [48] ν (m2 (m2 ν 96 48 (ν 96 43)) 96 48 (ν 96 48)) := fg_m96 (fg_m96 fg_rfl (by decide)) (by decide)
    exact cal_of (bd_sums ν h d (by omega)) ⟨⟨fun a ha h9 => hf.1 a (by simp) h9, fun j hj => hf.2 j (fun w => hj (by rw [List.mem_singleton.1 w]; decide))⟩, fun x hx => by rw [hf.1 126 (by simp) (by decide)], RS_fg (st := .inl e) h hf (by simp) (by decide), fun L s g q => by cases q⟩
  · have h0 := h1 s g rfl
    exact cal_mono (sX10_sumsTold hT hr.2.1 hr.2.2.2 (fun L s' g' q => (FJ_l hr.2.2.1 L s' g' q).2) h0.1 (B := []) (C := []) (by unfold isOp; decide) (by simpa using h0.2) ν (RX_start h h3 h4 h8) d hd) (fun v ν' hh => RPo_Ch hh)
