/-! ===== town: gates, both alike ===== -/
theorem Cl_gw {b : Bool} {μ : Nat → Int → Int} {N : Nat → List (List Int)} {ML : List (Int × Int × Int × Int)} {GL : List (Int × Int × Int)} {PL : List (Int × Int × Int × Int)} {C : List Int} {H : Int} (h : Cl b μ (N, ML, GL, PL, C, H)) {a : Nat} (ha : a = 8 ∨ a = 9 ∨ a = 10) (v : Int) : Cl b (m2 μ (tw (!b) + a) (GL.length : Int) v) (N, ML, GL, PL, C, H) := by
  obtain ⟨c1, c2, c3, c4, c5, c6⟩ := h
  have ne : ∀ c, c ≠ a → m2 μ (tw (!b) + a) (GL.length : Int) v (tw (!b) + c) = μ (tw (!b) + c) := fun c hc => m2_ne (by omega)
  have ne0 : m2 μ (tw (!b) + a) (GL.length : Int) v (tw (!b)) = μ (tw (!b)) := m2_ne (by omega)
  have any : ∀ c, ∀ i : Nat, i < GL.length → m2 μ (tw (!b) + a) (GL.length : Int) v (tw (!b) + c) (i : Int) = μ (tw (!b) + c) (i : Int) := fun c i hi => by
    by_cases q : c = a
    · rw [q, m2_at, if_neg (by omega)]
    · rw [ne c q]
  refine ⟨fun k hk k2 => ?_, CMn_sm (fun c hc => ne c (by omega)) c2, ⟨by rw [ne 1 (by omega)]; exact c3.1, fun i hi => ?_⟩, CPp_sm (fun c hc => ne c (by omega)) c4, CCd_sm (by rw [ne0]) (ne 15 (by omega)) c5, by rw [ne0]; exact c6⟩
  · rw [ne 1 (by omega), show tw (!b) + 3 + k = tw (!b) + (3 + k) by omega, ne (3 + k) (by omega), show tw (!b) + (3 + k) = tw (!b) + 3 + k by omega]; exact c1 k hk k2
  · rw [any 8 i hi, any 9 i hi, any 10 i hi]; exact c3.2 i hi
theorem cg_117 {d : Nat} {b : Bool} {G : Nat} (hG : G < 12) (v2 v3 : Int) (μ : Nat → Int → Int) (hc : μ (tw (!b) + 1) 2 = (G : Int)) {Q : Int → (Nat → Int → Int) → Prop} (hQ : Q 0 (m2 (m2 μ (tw (!b) + 10) (G : Int) v3) (tw (!b) + 1) 2 ((G : Int) + 1))) : Ev (fun m => mRun (mCallN d) kX4_readGate m 117 [some (mP 1), some (mI (G : Int)), some (mI v2), some (mI v3)] [] (SH, μ, RHO b)) b Q := by
  refine ev_row (fun m => tX4_readGate_117 _ m b μ _ _ _) (ev_if (by omega) (ev_ret ?_))
  have e1 : w32 (m2 μ (tw (!b) + 10) (G : Int) v3 (tw (!b) + 1) 2 + 1) = (G : Int) + 1 := by
    rw [m2_ne (by omega), hc]; exact w32_id (by omega) (by omega)
  rw [e1]; exact hQ
section
variable {b : Bool} {T : Int → Int} {n : Int} {N : Nat → List (List Int)} {ML : List (Int × Int × Int × Int)} {GL : List (Int × Int × Int)} {PL : List (Int × Int × Int × Int)} {C : List Int} {H : Int}
theorem dfr_fin {μ0 μ : Nat → Int → Int} {G v3 : Int} (h : Dfr b μ0 μ) : Dfr b μ0 (m2 (m2 μ (tw (!b) + 10) G v3) (tw (!b) + 1) 2 (G + 1)) := dfr_m2 (dfr_m2 h (by omega)) (by omega)
theorem cg79_dd {d : Nat} (hd : 4 ≤ d) {μ0 μ : Nat → Int → Int} {e : Int × Int} (hN : NOk N) (hG : GL.length < 12) (hf : Dfr b μ0 μ) (h : CDd T n μ e) (hc : Cl b μ (N, ML, GL, PL, C, H)) (v2 : Int) : Ev (fun m => mRun (mCallN d) kX4_readGate m 79 [some (mP 1), some (mI (GL.length : Int)), some (mI v2), none] [] (SH, μ, RHO b)) b (fun _ μ' => CSS b T n μ0 μ' (.inl e)) := by
  refine ev_row (fun m => tX4_readGate_79 _ m b μ _ _) (ev_callP (sX4_takeWord_dd 6 (by decide) b μ h d (by omega)) (fun v μ1 ⟨f1', h1'⟩ => ?_))
  have f1 : Fj rdJ μ μ1 := f1'
  have h1 : CDd T n μ1 e := h1'
  have k1 := Cl_sm (dsm_fj (b := b) f1) hc
  have a1 := (k1.1 1 (by decide) (by decide)).1
  have a2 := (hN 1 (by decide) (by decide)).1
  refine ev_callP (sX4_takeOldName_dd (k := 1) (by decide) b μ1 h1 (by rw [a1]; omega) (by rw [a1]; omega) d (by omega)) (fun v' μ2 ⟨f2', h2'⟩ => ?_)
  have f2 : Fj rdJ μ1 μ2 := f2'
  have h2 : CDd T n μ2 e := h2'
  have f12 := fj_tr f1 f2
  have k2 := Cl_sm (dsm_fj (b := b) f12) hc
  refine ev_call (sX7_standingBits (!b) b μ2 k2.2.2.1.1 (by omega) d (by omega)) (ev_br (fun _ => ?_) (fun _ => ?_))
  · refine ev_callP (sX4_fail_dead 3 _ b μ2 h2 d (by omega)) (fun v3 μ3 ⟨f3', h3'⟩ => ?_)
    have f3 : Fj rdJ μ2 μ3 := f3'
    have h3 : CDd T n μ3 e := h3'
    have k3 := Cl_sm (dsm_fj (b := b) (fj_tr f12 f3)) hc
    exact cg_117 hG _ _ μ3 k3.2.2.1.1 ⟨dfr_fin (dfr_tr hf (dfr_fj (fj_tr f12 f3))), CDd_tw (b := b) (CDd_tw (b := b) h3 (by omega)) (by omega)⟩
  · exact cg_117 hG _ _ μ2 k2.2.2.1.1 ⟨dfr_fin (dfr_tr hf (dfr_fj f12)), CDd_tw (b := b) (CDd_tw (b := b) h2 (by omega)) (by omega)⟩
theorem bits_mem {μ : Nat → Int → Int} (hg : CGt b μ GL) (hm : ∀ x ∈ GL, 0 ≤ x.2.2 ∧ x.2.2 < 12) (hG : GL.length ≤ 12) {m : Int} (m0 : 0 ≤ m) (m1 : m < 12) : iAnd (iShr (orB (μ (tw (!b) + 10)) GL.length 0 0) m) 1 = t01 (m ∈ GL.map (fun x => x.2.2)) := by
  have hat : ∀ g, 0 ≤ g → g < (0 : Int) + (GL.length : Int) → ∃ i : Nat, i < GL.length ∧ g = (i : Int) ∧ μ (tw (!b) + 10) g = (GL.getD i z3).2.2 ∧ GL.getD i z3 ∈ GL := fun g g0 g1 => by
    obtain ⟨i, rfl⟩ : ∃ i : Nat, g = (i : Int) := ⟨g.toNat, by omega⟩
    have hi : i < GL.length := by omega
    refine ⟨i, hi, rfl, (hg.2 i hi).2.2, ?_⟩
    rw [List.getD_eq_getElem?_getD, List.getElem?_eq_getElem hi]; exact List.getElem_mem hi
  obtain ⟨⟨b0, b1⟩, hb⟩ := orB_bits (f := μ (tw (!b) + 10)) GL.length 0 0 (fun g g0 g1 => by
    obtain ⟨i, hi, rfl, q1, q2⟩ := hat g g0 g1
    rw [q1]; exact hm _ q2) (by decide) (by decide)
  have b1' : orB (μ (tw (!b) + 10)) GL.length 0 0 < 4096 := b1
  rw [bit_iff b0 (by omega) m0 (by omega)]
  have key : bI (orB (μ (tw (!b) + 10)) GL.length 0 0) m = true ↔ m ∈ GL.map (fun x => x.2.2) := by
    rw [hb m m0]
    constructor
    · intro q
      rcases q with q | ⟨g, g0, g1, q⟩
      · exfalso
        have : bI 0 m = false := by unfold bI; simp
        rw [this] at q; cases q
      · obtain ⟨i, hi, rfl, q1, q2⟩ := hat g g0 g1
        exact List.mem_map.2 ⟨_, q2, by rw [← q1]; exact q⟩
    · intro q
      obtain ⟨x, hx, q⟩ := List.mem_map.1 q
      obtain ⟨i, hi, hxi⟩ := List.getElem_of_mem hx
      refine Or.inr ⟨(i : Int), by omega, by omega, ?_⟩
      rw [(hg.2 i hi).2.2, List.getD_eq_getElem?_getD, List.getElem?_eq_getElem hi]
      show (GL[i]).2.2 = m
      rw [hxi]; exact q
  by_cases q : m ∈ GL.map (fun x => x.2.2)
  · rw [if_pos (key.2 q), t01_pos q]
  · rw [if_neg (fun w => q (key.1 w)), t01_neg q]
end
