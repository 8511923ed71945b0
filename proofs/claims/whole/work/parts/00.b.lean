/-- (a word that the printed block below uses and the kit lacks) -/
def va_AOA (ty : FieldType) (U : State) : Prop := (Cond.arrayOver (.array ty)).before #[] U = true
theorem va_AOA.use {ty : FieldType} {A : Array Value} {U : State} (h : va_AOA ty U) : (Cond.arrayOver (.array ty)).before A U = true := h
theorem va_AOA.moved {ty : FieldType} {u U : State} (hvm : u.vm.Alike U.vm) (h : va_AOA ty u) : va_AOA ty U := by
  unfold va_AOA Cond.before Cond.holds at h ⊢
  simp only [Cond.value] at h ⊢
  cases hc : u.vm.findClass (FieldType.array ty).toString with
  | none => simp [hc] at h
  | some comp =>
    have f1 : U.vm.findClass (FieldType.array ty).toString = some comp := by rw [hvm.findClass]; exact hc
    rw [f1]
    simp only [hc, Option.bind_some, Option.bind_eq_some_iff, Option.map_eq_some_iff, beq_iff_eq] at h ⊢
    obtain ⟨c, hi, k, hk, hb⟩ := h
    obtain ⟨k', hk', he⟩ := hvm.2.2 _ _ hk
    refine ⟨c, ?_, k', hk', ?_⟩
    · have hb0 : U.vm.bare = u.vm.bare := by first | exact hvm.bare_eq | exact hvm.bare_eq.symm
      have e := va_idx_bare U.vm comp
      rw [hb0] at e
      exact e.symm.trans ((va_idx_bare u.vm comp).trans hi)
    · rw [he, hvm.findClass]
      exact hb
/-! ===== BEGIN new T[n][m]: the outer array a place, the inner ones among the pooled ===== -/
/-- f, but v at every address of l -/
def vr_up {α : Type} (f : Nat → α) (l : List Nat) (v : α) : Nat → α := fun a => if a ∈ l then v else f a
theorem vr_up_in {α : Type} {f : Nat → α} {l : List Nat} {v : α} {a : Nat} (h : a ∈ l) : vr_up f l v a = v := if_pos h
theorem vr_up_ne {α : Type} {f : Nat → α} {l : List Nat} {v : α} {a : Nat} (h : a ∉ l) : vr_up f l v a = f a := if_neg h
theorem vr_rows {L l : List Nat} {f : Nat → va_E} {e : va_E} (h : ∀ a, a ∈ l → a ∉ L) : va_pl L f ++ l.map (fun a => (a, e)) = va_pl (L ++ l) (vr_up f l e) := by
  unfold va_pl
  rw [List.map_append]
  congr 1
  · apply List.map_congr_left
    intro a ha
    rw [vr_up_ne (fun q => h a q ha)]
  · apply List.map_congr_left
    intro a ha
    rw [vr_up_in ha]
theorem vr_lay {X rows : va_W} {x : Nat × va_E} {pl : va_W} {D : va_G} {cl : List vw_C} {H : Heap} (hP : va_P D cl (((X ++ pl) ++ [x]) ++ rows) H) : va_P D cl ((X ++ [x]) ++ (pl ++ rows)) H := by
  rw [List.append_assoc (X ++ pl)] at hP
  have h := va_P.swap hP
  rw [← List.append_assoc X] at h
  have h2 := va_P.swap h
  rw [List.append_assoc (X ++ [x])] at h2
  exact h2
theorem vr_layD {X rows : va_W} {x : Nat × va_E} {pl : va_W} {A : Nat → Prop} (hD : va_D A (((X ++ pl) ++ [x]) ++ rows)) : va_D A ((X ++ [x]) ++ (pl ++ rows)) := by
  rw [List.append_assoc (X ++ pl)] at hD
  have h := va_D.swap hD
  rw [← List.append_assoc X] at h
  have h2 := va_D.swap h
  rw [List.append_assoc (X ++ [x])] at h2
  exact h2
theorem vr_outer (c : ClassId) (N h0 : Nat) : ∀ i : Nat, Jvm.Free.Multi.outerC c N h0 i = arrV c N (fun j => va_rf (if j < i then some (h0 + 1 + j) else none))
  | 0 => by
    show ({ cls := c, slots := Array.replicate N .null, vm := .none } : Cell) = _
    rw [arrV_new]
    refine congrArg (arrV c N) (funext fun j => ?_)
    simp [va_rf]
  | i + 1 => by
    show (Jvm.Free.Multi.outerC c N h0 i).setSlot i (.ref (h0 + 1 + i)) = _
    rw [vr_outer c N h0 i, arrV_store]
    refine congrArg (arrV c N) (funext fun j => ?_)
    by_cases e : j = i
    · subst e
      simp [updV, va_rf]
    · by_cases h : j < i
      · simp [updV, e, h, Nat.lt_succ_of_lt h]
      · simp [updV, e, h, show ¬ j < i + 1 by omega]
section VGM
variable {p : Program} {l : Launch} {e : Env} {R : Room} {s : State} {m : MethodId} {args : Array Value} {below : List Frame} {meth : Method} {c : Code} {H : Heap} {locs : List Loc} {cells slots : Nat} {Q : State → Prop}
variable {cc : ByteArray} {pc : Nat} {ls : Array Slot} {rest : List Value} {D : va_G} {cl : List vw_C} {A : Nat → Prop} {a : Nat} {tys : List (ClassId × FieldType)} {ws : va_W} {H0 : Heap}
theorem va_mna {X : va_W} {L : List Nat} {f : Nat → va_E} {cc : ByteArray} (hexec : p.tables.exec = Jvm.exec) (hb : c.code = cc) {own : String} {index : Nat} {ty : FieldType} {cy : ClassId} (hown : s.vm.findClass own = some m.cls) (hclink : (Cond.classLink own index ("[" ++ (FieldType.array ty).toString)).before args s = true) (hover : va_AOA ty s) (harr : (Cond.arrayClass ty).before args s = true) (hcy : s.vm.findClass (FieldType.array ty).toString = some cy)
    (hK : va_K D cl tys s) (hP : va_P D cl (X ++ va_pl L f) H) (hD : va_D A (X ++ va_pl L f)) (hS : va_S A H0 H locs) (hA : ∀ q, H0.size ≤ q → A q) {n k : Int32} {N' K' : Nat} {z : vp_A} (hn : ¬ n < 0) (hk : ¬ k < 0) (hN : n.toNatClampNeg = N') (hM : k.toNatClampNeg = K')
    (hb1 : N' * 4 ≤ 536870912) (hb2 : K' * componentBytes ty ≤ 536870912) (hb3 : K' ≤ 536870912) (hdf : fits ty (defaultValue ty) = true) (hdd : (defaultValue ty).isDefault = true) (hcells : cells + (1 + N') ≤ R.cells) (hslots : slots + (N' + N' * K') ≤ R.slots) (hz : ∀ c : ClassId, Jvm.Free.Multi.innerC c K' (defaultValue ty) = vp_cell c z) (hdg : decode cc pc = .ok (.multianewarray index 2, 4))
    (kk : ∀ (q : Nat) (r : Nat → Nat) (cA : ClassId) (H1 : Heap), q = H.size → r = (fun i => H.size + 1 + i) → (∀ i j : Nat, i < N' → j < N' → r i = r j → i = j) → (∀ i : Nat, i < N' → r i ∉ L) → va_K D cl (tys ++ [(cA, .array ty)]) s →
      va_P D cl ((X ++ [(q, .inl (cA, N', .inr (.inr (.inr (.inr (fun i => if i < N' then some (r i) else none))))))]) ++ va_pl (L ++ (List.range N').map r) (vr_up f ((List.range N').map r) (.inl (cy, z)))) H1 → va_D A ((X ++ [(q, .inl (cA, N', .inr (.inr (.inr (.inr (fun i => if i < N' then some (r i) else none))))))]) ++ va_pl (L ++ (List.range N').map r) (vr_up f ((List.range N').map r) (.inl (cy, z)))) → va_S A H0 H1 locs →
      W p l e R s m args below meth c H1 locs (cells + 1 + N') (slots + N' + N' * K') Q (F0 m (pc + 4) ls (.ref q :: rest))) : W p l e R s m args below meth c H locs cells slots Q (F0 m pc ls (.int k :: .int n :: rest)) := by
  subst hN
  subst hM
  intro T hT Xs
  obtain ⟨vm₁, cA, comp, -, fA, fC, hO, -, X', step⟩ := Xs.multianewarray2F hexec hown hclink (va_AOA.use hover) harr (g := F0 m pc ls (.int k :: .int n :: rest)) rfl (by rw [hb]; exact hdg) rfl hn hk hb1 hb2 hb3 hdf hdd hcells hslots
  have ec : some cy = some comp := hcy.symm.trans fC
  cases ec
  generalize hF : Jvm.Free.Multi.fill (T.setVm vm₁) cA cy n.toNatClampNeg k.toNatClampNeg (defaultValue ty) n.toNatClampNeg = F at X' step
  have hTh : (T.setVm vm₁).heap = H := hT
  obtain ⟨f1, f2, -, -⟩ := Jvm.Free.Multi.fill_facts (T.setVm vm₁) cA cy n.toNatClampNeg k.toNatClampNeg (defaultValue ty) n.toNatClampNeg
  rw [hF, hTh] at f1 f2
  have hold : ∀ x : Nat, x < H.size → F.heap[x]? = H[x]? := fun x hx => by
    have := Jvm.Free.Multi.fill_old (T.setVm vm₁) cA cy n.toNatClampNeg k.toNatClampNeg (defaultValue ty) (a := x) (by rw [hTh]; exact hx) n.toNatClampNeg
    rw [hF, hTh] at this
    exact this
  have hrow : ∀ j : Nat, j < n.toNatClampNeg → F.heap[H.size + 1 + j]? = some (vp_cell cy z) := fun j hj => by
    have := Jvm.Free.Multi.fill_inner (T.setVm vm₁) cA cy n.toNatClampNeg k.toNatClampNeg (defaultValue ty) n.toNatClampNeg j hj
    rw [hF, hTh, hz] at this
    exact this
  have hout : Jvm.Free.Multi.outerC cA n.toNatClampNeg H.size n.toNatClampNeg = vp_cell cA (n.toNatClampNeg, .inr (.inr (.inr (.inr (fun i => if i < n.toNatClampNeg then some (H.size + 1 + i) else none))))) := by
    rw [vp_cell_q]
    exact vr_outer cA n.toNatClampNeg H.size n.toNatClampNeg
  rw [hout] at f2
  have hlt : ∀ a, a ∈ L → a < H.size := fun a ha => by
    obtain ⟨k9, hk9⟩ := va_pl_get (X := X) (f := f) ha
    exact (hP k9 _ hk9).lt
  have hnl : ∀ i : Nat, i < n.toNatClampNeg → H.size + 1 + i ∉ L := fun i _ h => by
    have := hlt _ h
    omega
  have hnm : ∀ a, a ∈ (List.range n.toNatClampNeg).map (fun i => H.size + 1 + i) → a ∉ L := fun a ha h => by
    obtain ⟨i, -, rfl⟩ := List.mem_map.mp ha
    have := hlt _ h
    omega
  have hP0 : va_P D cl (X ++ va_pl L f) F.heap := hP.kept (fun k9 x hx => hold x.1 ((hP k9 x hx).lt))
  have hP1 : va_P D cl ((X ++ va_pl L f) ++ [(H.size, .inl (cA, n.toNatClampNeg, .inr (.inr (.inr (.inr (fun i => if i < n.toNatClampNeg then some (H.size + 1 + i) else none))))))]) F.heap := hP0.app (fun k9 x hx => by
    have h0 : k9 < 1 := (List.getElem?_eq_some_iff.mp hx).1
    rw [show k9 = 0 by omega] at hx
    cases hx
    exact f2)
  have hP2 : va_P D cl (((X ++ va_pl L f) ++ [(H.size, .inl (cA, n.toNatClampNeg, .inr (.inr (.inr (.inr (fun i => if i < n.toNatClampNeg then some (H.size + 1 + i) else none))))))]) ++ ((List.range n.toNatClampNeg).map (fun i => H.size + 1 + i)).map (fun a => (a, .inl (cy, z)))) F.heap := hP1.app (fun k9 x hx => by
    obtain ⟨a, ha, rfl⟩ := List.mem_map.mp (List.mem_of_getElem? hx)
    obtain ⟨i, hi, rfl⟩ := List.mem_map.mp ha
    exact hrow i (List.mem_range.mp hi))
  have hD2 : va_D A (((X ++ va_pl L f) ++ [(H.size, .inl (cA, n.toNatClampNeg, .inr (.inr (.inr (.inr (fun i => if i < n.toNatClampNeg then some (H.size + 1 + i) else none))))))]) ++ ((List.range n.toNatClampNeg).map (fun i => H.size + 1 + i)).map (fun a => (a, .inl (cy, z)))) := by
    have hD1 := hD.push (e := .inl (cA, n.toNatClampNeg, .inr (.inr (.inr (.inr (fun i => if i < n.toNatClampNeg then some (H.size + 1 + i) else none)))))) hP rfl (hA _ hS.1)
    generalize hW1 : (X ++ va_pl L f) ++ [(H.size, .inl (cA, n.toNatClampNeg, .inr (.inr (.inr (.inr (fun i => if i < n.toNatClampNeg then some (H.size + 1 + i) else none))))))] = W1 at hD1 hP1 ⊢
    have hle : ∀ (k9 : Nat) (x : Nat × va_E), W1[k9]? = some x → x.1 ≤ H.size := fun k9 x hx => by
      rw [← hW1] at hx
      by_cases hl : k9 < (X ++ va_pl L f).length
      · rw [List.getElem?_append_left hl] at hx
        exact Nat.le_of_lt ((hP k9 x hx).lt)
      · rw [List.getElem?_append_right (by omega)] at hx
        have h0 : k9 - (X ++ va_pl L f).length < 1 := (List.getElem?_eq_some_iff.mp hx).1
        rw [show k9 - (X ++ va_pl L f).length = 0 by omega] at hx
        cases hx
        exact Nat.le_refl _
    have hr : ∀ (k9 : Nat) (x : Nat × va_E), (((List.range n.toNatClampNeg).map (fun i => H.size + 1 + i)).map (fun a => ((a, .inl (cy, z)) : Nat × va_E)))[k9]? = some x → x.1 = H.size + 1 + k9 := fun k9 x hx => by
      rw [List.getElem?_map, List.getElem?_map] at hx
      by_cases h9 : k9 < n.toNatClampNeg
      · rw [List.getElem?_range h9] at hx
        cases hx
        rfl
      · have hn0 : (List.range n.toNatClampNeg)[k9]? = none := List.getElem?_eq_none (by rw [List.length_range]; omega)
        rw [hn0] at hx
        cases hx
    refine ⟨fun i j x y hi hj hxy => ?_, fun k9 x hx => ?_⟩
    · by_cases h1 : i < W1.length <;> by_cases h2 : j < W1.length
      · rw [List.getElem?_append_left h1] at hi
        rw [List.getElem?_append_left h2] at hj
        exact hD1.1 i j x y hi hj hxy
      · rw [List.getElem?_append_left h1] at hi
        rw [List.getElem?_append_right (by omega)] at hj
        have := hle _ _ hi
        have := hr _ _ hj
        omega
      · rw [List.getElem?_append_right (by omega)] at hi
        rw [List.getElem?_append_left h2] at hj
        have := hle _ _ hj
        have := hr _ _ hi
        omega
      · rw [List.getElem?_append_right (by omega)] at hi hj
        have := hr _ _ hi
        have := hr _ _ hj
        omega
    · by_cases h1 : k9 < W1.length
      · rw [List.getElem?_append_left h1] at hx
        exact hD1.2 k9 x hx
      · rw [List.getElem?_append_right (by omega)] at hx
        have := hr _ _ hx
        exact hA _ (by have := hS.1; omega)
  have hAr : ArrOfT s cA (.array ty) := fun N9 z9 => by
    obtain ⟨-, k9, hk9, cm9, hkk9⟩ := (hO 0 0 0).1
    exact ⟨(fun q hq => by cases hq), k9, hk9, cm9, hkk9⟩
  have hK2 : va_K D cl (tys ++ [(cA, .array ty)]) s := ⟨hK.1, fun k9 x hx => by
    by_cases hl : k9 < tys.length
    · rw [List.getElem?_append_left hl] at hx
      exact hK.2 k9 x hx
    · rw [List.getElem?_append_right (by omega)] at hx
      have h0 : k9 - tys.length < 1 := (List.getElem?_eq_some_iff.mp hx).1
      rw [show k9 - tys.length = 0 by omega] at hx
      cases hx
      exact ⟨hAr, fA⟩⟩
  obtain ⟨t, a1, b1⟩ := kk H.size (fun i => H.size + 1 + i) cA F.heap rfl rfl (fun i j _ _ h => by have h9 : H.size + 1 + i = H.size + 1 + j := h; omega) hnl hK2 (by rw [← vr_rows hnm]; exact vr_lay hP2) (by rw [← vr_rows hnm]; exact vr_layD hD2) ⟨by rw [f1]; have := hS.1; omega, fun x h1 h2 => (hold x (Nat.lt_of_lt_of_le h1 hS.1)).trans (hS.2.1 x h1 h2), hS.2.2⟩ F rfl X'
  refine ⟨t, step t ?_, b1⟩
  have e : T.heap.size = H.size := by rw [hT]
  rw [e]
  exact a1
end VGM
/-! ===== END ===== -/


def RX0 : String := "TenthMan$History"
def TX0 : u_T := fun k => match k with
  | 0 => ("TenthMan$History", "rows", "[[I", true)
  | 1 => ("TenthMan$History", "next", "I", false)
  | _ => ("TenthMan$History", "count", "I", false)
def tyX0 : Nat → FieldType := fun k => match k with
  | 0 => .array (.array .int)
  | 1 => .int
  | _ => .int
abbrev wsX00 : List Cond := u_ws RX0 TX0 3
theorem nmX0 : ∀ a, a < 3 → ∀ b, b < 3 → a ≠ b → (TX0 a).2.1 ≠ (TX0 b).2.1 := by decide +kernel
theorem tyX0_ok : ∀ k, k < 3 → parseFieldDescriptor (TX0 k).2.2.1 = some (tyX0 k) := by decide +kernel
abbrev cX0_init : ByteArray := prog_2_method_1_code
def yX0_init : MethodName := ⟨RX0, "<init>", "()V"⟩
abbrev cX0_clear : ByteArray := prog_2_method_2_code
def yX0_clear : MethodName := ⟨RX0, "clear", "()V"⟩
abbrev cX0_keep : ByteArray := prog_2_method_3_code
def yX0_keep : MethodName := ⟨RX0, "keep", "([I)V"⟩
abbrev cX0_bringBack : ByteArray := prog_2_method_4_code
def yX0_bringBack : MethodName := ⟨RX0, "bringBack", "([I)Z"⟩
def RX1 : String := "TenthMan$Image"
def TX1 : u_T := fun k => match k with
  | 0 => ("TenthMan$Image", "bytes", "[I", true)
  | _ => ("TenthMan$Image", "length", "I", false)
def tyX1 : Nat → FieldType := fun k => match k with
  | 0 => .array .int
  | _ => .int
abbrev wsX10 : List Cond := u_ws RX1 TX1 2
theorem nmX1 : ∀ a, a < 2 → ∀ b, b < 2 → a ≠ b → (TX1 a).2.1 ≠ (TX1 b).2.1 := by decide +kernel
theorem tyX1_ok : ∀ k, k < 2 → parseFieldDescriptor (TX1 k).2.2.1 = some (tyX1 k) := by decide +kernel
abbrev cX1_init : ByteArray := prog_3_method_1_code
def yX1_init : MethodName := ⟨RX1, "<init>", "()V"⟩
abbrev cX1_write : ByteArray := prog_3_method_2_code
def yX1_write : MethodName := ⟨RX1, "write", "(LTenthMan$Town;[I)V"⟩
abbrev cX1_put : ByteArray := prog_3_method_3_code
def yX1_put : MethodName := ⟨RX1, "put", "(I)V"⟩
abbrev cX1_putTwo : ByteArray := prog_3_method_4_code
def yX1_putTwo : MethodName := ⟨RX1, "putTwo", "(I)V"⟩
abbrev cX1_sumUp : ByteArray := prog_3_method_5_code
def yX1_sumUp : MethodName := ⟨RX1, "sumUp", "([II)I"⟩
abbrev cX1_isOf : ByteArray := prog_3_method_6_code
def yX1_isOf : MethodName := ⟨RX1, "isOf", "(LTenthMan$Town;LTenthMan$Tape;)Z"⟩
abbrev cX1_read : ByteArray := prog_3_method_7_code
def yX1_read : MethodName := ⟨RX1, "read", "(LTenthMan$Town;LTenthMan$Tape;[I)V"⟩
abbrev cX1_two : ByteArray := prog_3_method_8_code
def yX1_two : MethodName := ⟨RX1, "two", "(LTenthMan$Tape;I)I"⟩
abbrev cX1_canBe : ByteArray := prog_3_method_9_code
def yX1_canBe : MethodName := ⟨RX1, "canBe", "(LTenthMan$Town;[I)Z"⟩
abbrev cX1_standAsTold : ByteArray := prog_3_method_10_code
def yX1_standAsTold : MethodName := ⟨RX1, "standAsTold", "(LTenthMan$Town;[I)Z"⟩
abbrev cX1_menCanBe : ByteArray := prog_3_method_11_code
def yX1_menCanBe : MethodName := ⟨RX1, "menCanBe", "(LTenthMan$Town;[I)Z"⟩
abbrev cX1_peopleCanBe : ByteArray := prog_3_method_12_code
def yX1_peopleCanBe : MethodName := ⟨RX1, "peopleCanBe", "(LTenthMan$Town;[I)Z"⟩
def RX2 : String := "TenthMan$Judge"
def TX2 : u_T := fun k => match k with
  | 0 => ("TenthMan$Judge", "facts", "[I", true)
  | _ => ("TenthMan$Judge", "stack", "[I", true)
def tyX2 : Nat → FieldType := fun k => match k with
  | 0 => .array .int
  | _ => .array .int
abbrev wsX20 : List Cond := u_ws RX2 TX2 2
theorem nmX2 : ∀ a, a < 2 → ∀ b, b < 2 → a ≠ b → (TX2 a).2.1 ≠ (TX2 b).2.1 := by decide +kernel
theorem tyX2_ok : ∀ k, k < 2 → parseFieldDescriptor (TX2 k).2.2.1 = some (tyX2 k) := by decide +kernel
abbrev cX2_init : ByteArray := prog_4_method_1_code
def yX2_init : MethodName := ⟨RX2, "<init>", "()V"⟩
abbrev cX2_price : ByteArray := prog_4_method_2_code
def yX2_price : MethodName := ⟨RX2, "price", "(LTenthMan$Town;[IIII)I"⟩
abbrev cX2_priceFresh : ByteArray := prog_4_method_3_code
def yX2_priceFresh : MethodName := ⟨RX2, "priceFresh", "(LTenthMan$Town;IIII)I"⟩
abbrev cX2_priceAll : ByteArray := prog_4_method_4_code
def yX2_priceAll : MethodName := ⟨RX2, "priceAll", "(LTenthMan$Town;[I[[I)V"⟩
abbrev cX2_setFacts : ByteArray := prog_4_method_5_code
def yX2_setFacts : MethodName := ⟨RX2, "setFacts", "(IIIII)V"⟩
abbrev cX2_priceByFacts : ByteArray := prog_4_method_6_code
def yX2_priceByFacts : MethodName := ⟨RX2, "priceByFacts", "(LTenthMan$Town;I)I"⟩
abbrev cX2_reckon : ByteArray := prog_4_method_7_code
def yX2_reckon : MethodName := ⟨RX2, "reckon", "([III)I"⟩
abbrev cX2_join : ByteArray := prog_4_method_8_code
def yX2_join : MethodName := ⟨RX2, "join", "(III)I"⟩
def RX3 : String := "TenthMan$Order"
def TX3 : u_T := fun k => match k with
  | 0 => ("TenthMan$Order", "men", "[I", true)
  | 1 => ("TenthMan$Order", "people", "I", false)
  | 2 => ("TenthMan$Order", "coins", "I", false)
  | 3 => ("TenthMan$Order", "exchanges", "I", false)
  | _ => ("TenthMan$Order", "known", "Z", false)
def tyX3 : Nat → FieldType := fun k => match k with
  | 0 => .array .int
  | 1 => .int
  | 2 => .int
  | 3 => .int
  | _ => .boolean
abbrev wsX30 : List Cond := u_ws RX3 TX3 5
theorem nmX3 : ∀ a, a < 5 → ∀ b, b < 5 → a ≠ b → (TX3 a).2.1 ≠ (TX3 b).2.1 := by decide +kernel
theorem tyX3_ok : ∀ k, k < 5 → parseFieldDescriptor (TX3 k).2.2.1 = some (tyX3 k) := by decide +kernel
abbrev cX3_init : ByteArray := prog_5_method_1_code
def yX3_init : MethodName := ⟨RX3, "<init>", "()V"⟩
abbrev cX3_rate : ByteArray := prog_5_method_2_code
def yX3_rate : MethodName := ⟨RX3, "rate", "(LTenthMan$Town;[I[[ILTenthMan$Ways;)V"⟩
abbrev cX3_isBetterThan : ByteArray := prog_5_method_3_code
def yX3_isBetterThan : MethodName := ⟨RX3, "isBetterThan", "(LTenthMan$Order;)Z"⟩
abbrev cX3_copyFrom : ByteArray := prog_5_method_4_code
def yX3_copyFrom : MethodName := ⟨RX3, "copyFrom", "(LTenthMan$Order;)V"⟩
abbrev cX3_tell : ByteArray := prog_5_method_5_code
def yX3_tell : MethodName := ⟨RX3, "tell", "(II)I"⟩
def RX4 : String := "TenthMan$Reader"
def TX4 : u_T := fun k => match k with
  | 0 => ("TenthMan$Reader", "tape", "LTenthMan$Tape;", true)
  | 1 => ("TenthMan$Reader", "town", "LTenthMan$Town;", false)
  | 2 => ("TenthMan$Reader", "fault", "I", false)
  | 3 => ("TenthMan$Reader", "faultPlace", "I", false)
  | 4 => ("TenthMan$Reader", "kind", "I", false)
  | 5 => ("TenthMan$Reader", "word", "I", false)
  | 6 => ("TenthMan$Reader", "sign", "I", false)
  | 7 => ("TenthMan$Reader", "start", "I", false)
  | _ => ("TenthMan$Reader", "behind", "I", false)
def tyX4 : Nat → FieldType := fun k => match k with
  | 0 => .object "TenthMan$Tape"
  | 1 => .object "TenthMan$Town"
  | 2 => .int
  | 3 => .int
  | 4 => .int
  | 5 => .int
  | 6 => .int
  | 7 => .int
  | _ => .int
abbrev wsX40 : List Cond := u_ws RX4 TX4 9
theorem nmX4 : ∀ a, a < 9 → ∀ b, b < 9 → a ≠ b → (TX4 a).2.1 ≠ (TX4 b).2.1 := by decide +kernel
theorem tyX4_ok : ∀ k, k < 9 → parseFieldDescriptor (TX4 k).2.2.1 = some (tyX4 k) := by decide +kernel
abbrev cX4_init : ByteArray := prog_6_method_1_code
def yX4_init : MethodName := ⟨RX4, "<init>", "()V"⟩
abbrev cX4_read : ByteArray := prog_6_method_2_code
def yX4_read : MethodName := ⟨RX4, "read", "()Z"⟩
abbrev cX4_begin : ByteArray := prog_6_method_3_code
def yX4_begin : MethodName := ⟨RX4, "begin", "()V"⟩
abbrev cX4_readRoom : ByteArray := prog_6_method_4_code
def yX4_readRoom : MethodName := ⟨RX4, "readRoom", "()V"⟩
abbrev cX4_readMan : ByteArray := prog_6_method_5_code
def yX4_readMan : MethodName := ⟨RX4, "readMan", "()V"⟩
abbrev cX4_readGate : ByteArray := prog_6_method_6_code
def yX4_readGate : MethodName := ⟨RX4, "readGate", "()V"⟩
abbrev cX4_readPerson : ByteArray := prog_6_method_7_code
def yX4_readPerson : MethodName := ⟨RX4, "readPerson", "()V"⟩
abbrev cX4_readChain : ByteArray := prog_6_method_8_code
def yX4_readChain : MethodName := ⟨RX4, "readChain", "(II)V"⟩
abbrev cX4_readFact : ByteArray := prog_6_method_9_code
def yX4_readFact : MethodName := ⟨RX4, "readFact", "(I)V"⟩
abbrev cX4_readPart : ByteArray := prog_6_method_10_code
def yX4_readPart : MethodName := ⟨RX4, "readPart", "(I)V"⟩
abbrev cX4_readBrackets : ByteArray := prog_6_method_11_code
def yX4_readBrackets : MethodName := ⟨RX4, "readBrackets", "(IZ)V"⟩
abbrev cX4_nextJoint : ByteArray := prog_6_method_12_code
def yX4_nextJoint : MethodName := ⟨RX4, "nextJoint", "(I)I"⟩
abbrev cX4_fail : ByteArray := prog_6_method_13_code
def yX4_fail : MethodName := ⟨RX4, "fail", "(II)V"⟩
abbrev cX4_takeAnother : ByteArray := prog_6_method_14_code
def yX4_takeAnother : MethodName := ⟨RX4, "takeAnother", "(I)Z"⟩
abbrev cX4_takeOpening : ByteArray := prog_6_method_15_code
def yX4_takeOpening : MethodName := ⟨RX4, "takeOpening", "(I)Z"⟩
abbrev cX4_takeWord : ByteArray := prog_6_method_16_code
def yX4_takeWord : MethodName := ⟨RX4, "takeWord", "(I)V"⟩
abbrev cX4_takeSign : ByteArray := prog_6_method_17_code
def yX4_takeSign : MethodName := ⟨RX4, "takeSign", "(I)V"⟩
abbrev cX4_takeComparison : ByteArray := prog_6_method_18_code
def yX4_takeComparison : MethodName := ⟨RX4, "takeComparison", "()I"⟩
abbrev cX4_takeNumber : ByteArray := prog_6_method_19_code
def yX4_takeNumber : MethodName := ⟨RX4, "takeNumber", "(II)I"⟩
abbrev cX4_takeName : ByteArray := prog_6_method_20_code
def yX4_takeName : MethodName := ⟨RX4, "takeName", "()I"⟩
abbrev cX4_takeNewName : ByteArray := prog_6_method_21_code
def yX4_takeNewName : MethodName := ⟨RX4, "takeNewName", "(I)I"⟩
abbrev cX4_takeOldName : ByteArray := prog_6_method_22_code
def yX4_takeOldName : MethodName := ⟨RX4, "takeOldName", "(I)I"⟩
abbrev cX4_take : ByteArray := prog_6_method_23_code
def yX4_take : MethodName := ⟨RX4, "take", "()V"⟩
abbrev cX4_kindOf : ByteArray := prog_6_method_24_code
def yX4_kindOf : MethodName := ⟨RX4, "kindOf", "(I)I"⟩
abbrev cX4_ownWord : ByteArray := prog_6_method_25_code
def yX4_ownWord : MethodName := ⟨RX4, "ownWord", "()I"⟩
def RX5 : String := "TenthMan$Standings"
def TX5 : u_T := fun k => match k with
  | 0 => ("TenthMan$Standings", "prices", "[[I", true)
  | 1 => ("TenthMan$Standings", "stood", "LTenthMan$Order;", true)
  | 2 => ("TenthMan$Standings", "exchanged", "LTenthMan$Order;", true)
  | _ => ("TenthMan$Standings", "tried", "LTenthMan$Order;", true)
def tyX5 : Nat → FieldType := fun k => match k with
  | 0 => .array (.array .int)
  | 1 => .object "TenthMan$Order"
  | 2 => .object "TenthMan$Order"
  | _ => .object "TenthMan$Order"
abbrev wsX50 : List Cond := u_ws RX5 TX5 4
theorem nmX5 : ∀ a, a < 4 → ∀ b, b < 4 → a ≠ b → (TX5 a).2.1 ≠ (TX5 b).2.1 := by decide +kernel
theorem tyX5_ok : ∀ k, k < 4 → parseFieldDescriptor (TX5 k).2.2.1 = some (tyX5 k) := by decide +kernel
abbrev cX5_init : ByteArray := prog_7_method_1_code
def yX5_init : MethodName := ⟨RX5, "<init>", "()V"⟩
abbrev cX5_forget : ByteArray := prog_7_method_2_code
def yX5_forget : MethodName := ⟨RX5, "forget", "()V"⟩
abbrev cX5_tryOrders : ByteArray := prog_7_method_3_code
def yX5_tryOrders : MethodName := ⟨RX5, "tryOrders", "(LTenthMan$Town;[ILTenthMan$Ways;)V"⟩
abbrev cX5_firstOrder : ByteArray := prog_7_method_4_code
def yX5_firstOrder : MethodName := ⟨RX5, "firstOrder", "(LTenthMan$Town;)V"⟩
abbrev cX5_nextOrder : ByteArray := prog_7_method_5_code
def yX5_nextOrder : MethodName := ⟨RX5, "nextOrder", "([II)Z"⟩
abbrev cX5_tryExchanges : ByteArray := prog_7_method_6_code
def yX5_tryExchanges : MethodName := ⟨RX5, "tryExchanges", "(LTenthMan$Town;[ILTenthMan$Ways;)V"⟩
abbrev cX5_betterExchange : ByteArray := prog_7_method_7_code
def yX5_betterExchange : MethodName := ⟨RX5, "betterExchange", "(LTenthMan$Town;[ILTenthMan$Ways;)Z"⟩
def RX6 : String := "TenthMan$Tape"
def TX6 : u_T := fun k => match k with
  | 0 => ("TenthMan$Tape", "bytes", "[I", true)
  | _ => ("TenthMan$Tape", "length", "I", false)
def tyX6 : Nat → FieldType := fun k => match k with
  | 0 => .array .int
  | _ => .int
abbrev wsX60 : List Cond := u_ws RX6 TX6 2
theorem nmX6 : ∀ a, a < 2 → ∀ b, b < 2 → a ≠ b → (TX6 a).2.1 ≠ (TX6 b).2.1 := by decide +kernel
theorem tyX6_ok : ∀ k, k < 2 → parseFieldDescriptor (TX6 k).2.2.1 = some (tyX6 k) := by decide +kernel
abbrev cX6_init : ByteArray := prog_8_method_1_code
def yX6_init : MethodName := ⟨RX6, "<init>", "()V"⟩
abbrev cX6_putNumber : ByteArray := prog_8_method_2_code
def yX6_putNumber : MethodName := ⟨RX6, "putNumber", "(I)V"⟩
abbrev cX6_byteAt : ByteArray := prog_8_method_3_code
def yX6_byteAt : MethodName := ⟨RX6, "byteAt", "(I)I"⟩
def RX7 : String := "TenthMan$Town"
def TX7 : u_T := fun k => match k with
  | 0 => ("TenthMan$Town", "statements", "I", false)
  | 1 => ("TenthMan$Town", "firstHour", "I", false)
  | 2 => ("TenthMan$Town", "counts", "[I", true)
  | 3 => ("TenthMan$Town", "names", "[[I", true)
  | 4 => ("TenthMan$Town", "tires", "[I", true)
  | 5 => ("TenthMan$Town", "gateFirst", "[I", true)
  | 6 => ("TenthMan$Town", "gateSecond", "[I", true)
  | 7 => ("TenthMan$Town", "gateMan", "[I", true)
  | 8 => ("TenthMan$Town", "personPlace", "[I", true)
  | 9 => ("TenthMan$Town", "personWish", "[I", true)
  | 10 => ("TenthMan$Town", "personCoins", "[I", true)
  | 11 => ("TenthMan$Town", "personTact", "[I", true)
  | 12 => ("TenthMan$Town", "code", "[I", true)
  | 13 => ("TenthMan$Town", "codeLength", "I", false)
  | 14 => ("TenthMan$Town", "testFrom", "[I", true)
  | 15 => ("TenthMan$Town", "bribeFrom", "[I", true)
  | _ => ("TenthMan$Town", "bribeEnd", "[I", true)
def tyX7 : Nat → FieldType := fun k => match k with
  | 0 => .int
  | 1 => .int
  | 2 => .array .int
  | 3 => .array (.array .int)
  | 4 => .array .int
  | 5 => .array .int
  | 6 => .array .int
  | 7 => .array .int
  | 8 => .array .int
  | 9 => .array .int
  | 10 => .array .int
  | 11 => .array .int
  | 12 => .array .int
  | 13 => .int
  | 14 => .array .int
  | 15 => .array .int
  | _ => .array .int
abbrev wsX70 : List Cond := u_ws RX7 TX7 17
theorem nmX7 : ∀ a, a < 17 → ∀ b, b < 17 → a ≠ b → (TX7 a).2.1 ≠ (TX7 b).2.1 := by decide +kernel
theorem tyX7_ok : ∀ k, k < 17 → parseFieldDescriptor (TX7 k).2.2.1 = some (tyX7 k) := by decide +kernel
abbrev cX7_init : ByteArray := prog_9_method_1_code
def yX7_init : MethodName := ⟨RX7, "<init>", "()V"⟩
abbrev cX7_clear : ByteArray := prog_9_method_2_code
def yX7_clear : MethodName := ⟨RX7, "clear", "()V"⟩
abbrev cX7_emit : ByteArray := prog_9_method_3_code
def yX7_emit : MethodName := ⟨RX7, "emit", "(I)V"⟩
abbrev cX7_numberOf : ByteArray := prog_9_method_4_code
def yX7_numberOf : MethodName := ⟨RX7, "numberOf", "(II)I"⟩
abbrev cX7_knows : ByteArray := prog_9_method_5_code
def yX7_knows : MethodName := ⟨RX7, "knows", "(I)Z"⟩
abbrev cX7_standingBits : ByteArray := prog_9_method_6_code
def yX7_standingBits : MethodName := ⟨RX7, "standingBits", "()I"⟩
abbrev cX7_begin : ByteArray := prog_9_method_7_code
def yX7_begin : MethodName := ⟨RX7, "begin", "([I)V"⟩
abbrev cX7_hasFainted : ByteArray := prog_9_method_8_code
def yX7_hasFainted : MethodName := ⟨RX7, "hasFainted", "([II)Z"⟩
abbrev cX7_areFriends : ByteArray := prog_9_method_9_code
def yX7_areFriends : MethodName := ⟨RX7, "areFriends", "([III)Z"⟩
abbrev cX7_across : ByteArray := prog_9_method_10_code
def yX7_across : MethodName := ⟨RX7, "across", "(II)I"⟩
def RX8 : String := "TenthMan$Ways"
def TX8 : u_T := fun k => match k with
  | 0 => ("TenthMan$Ways", "weight", "[I", true)
  | 1 => ("TenthMan$Ways", "far", "[I", true)
  | 2 => ("TenthMan$Ways", "route", "[I", true)
  | _ => ("TenthMan$Ways", "steps", "I", false)
def tyX8 : Nat → FieldType := fun k => match k with
  | 0 => .array .int
  | 1 => .array .int
  | 2 => .array .int
  | _ => .int
abbrev wsX80 : List Cond := u_ws RX8 TX8 4
theorem nmX8 : ∀ a, a < 4 → ∀ b, b < 4 → a ≠ b → (TX8 a).2.1 ≠ (TX8 b).2.1 := by decide +kernel
theorem tyX8_ok : ∀ k, k < 4 → parseFieldDescriptor (TX8 k).2.2.1 = some (tyX8 k) := by decide +kernel
abbrev cX8_init : ByteArray := prog_10_method_1_code
def yX8_init : MethodName := ⟨RX8, "<init>", "()V"⟩
abbrev cX8_measure : ByteArray := prog_10_method_2_code
def yX8_measure : MethodName := ⟨RX8, "measure", "(LTenthMan$Town;I)V"⟩
abbrev cX8_shorten : ByteArray := prog_10_method_3_code
def yX8_shorten : MethodName := ⟨RX8, "shorten", "(III)Z"⟩
abbrev cX8_trace : ByteArray := prog_10_method_4_code
def yX8_trace : MethodName := ⟨RX8, "trace", "(LTenthMan$Town;II)I"⟩
abbrev cX8_firstOnward : ByteArray := prog_10_method_5_code
def yX8_firstOnward : MethodName := ⟨RX8, "firstOnward", "(LTenthMan$Town;I)I"⟩
abbrev cX8_firstNearer : ByteArray := prog_10_method_6_code
def yX8_firstNearer : MethodName := ⟨RX8, "firstNearer", "(LTenthMan$Town;II)I"⟩
def RX9 : String := "TenthMan"
def TX9 : u_T := fun k => match k with
  | 0 => ("TenthMan", "reader", "LTenthMan$Reader;", true)
  | 1 => ("TenthMan", "tape", "LTenthMan$Tape;", true)
  | 2 => ("TenthMan", "judge", "LTenthMan$Judge;", true)
  | 3 => ("TenthMan", "ways", "LTenthMan$Ways;", true)
  | 4 => ("TenthMan", "standings", "LTenthMan$Standings;", true)
  | 5 => ("TenthMan", "history", "LTenthMan$History;", true)
  | 6 => ("TenthMan", "image", "LTenthMan$Image;", true)
  | 7 => ("TenthMan", "now", "[I", true)
  | 8 => ("TenthMan", "trial", "[I", true)
  | 9 => ("TenthMan", "sights", "[I", true)
  | 10 => ("TenthMan", "sightCount", "I", false)
  | 11 => ("TenthMan", "lotSeed", "J", false)
  | _ => ("TenthMan", "told", "LTenthMan$Town;", false)
def tyX9 : Nat → FieldType := fun k => match k with
  | 0 => .object "TenthMan$Reader"
  | 1 => .object "TenthMan$Tape"
  | 2 => .object "TenthMan$Judge"
  | 3 => .object "TenthMan$Ways"
  | 4 => .object "TenthMan$Standings"
  | 5 => .object "TenthMan$History"
  | 6 => .object "TenthMan$Image"
  | 7 => .array .int
  | 8 => .array .int
  | 9 => .array .int
  | 10 => .int
  | 11 => .long
  | _ => .object "TenthMan$Town"
abbrev wsX90 : List Cond := u_ws RX9 TX9 13
theorem nmX9 : ∀ a, a < 13 → ∀ b, b < 13 → a ≠ b → (TX9 a).2.1 ≠ (TX9 b).2.1 := by decide +kernel
theorem tyX9_ok : ∀ k, k < 13 → parseFieldDescriptor (TX9 k).2.2.1 = some (tyX9 k) := by decide +kernel
abbrev cX9_init : ByteArray := prog_1_method_1_code
def yX9_init : MethodName := ⟨RX9, "<init>", "()V"⟩
abbrev cX9_feed : ByteArray := prog_1_method_2_code
def yX9_feed : MethodName := ⟨RX9, "feed", "(IIIII)I"⟩
abbrev cX9_end : ByteArray := prog_1_method_3_code
def yX9_end : MethodName := ⟨RX9, "end", "(I)Z"⟩
abbrev cX9_town : ByteArray := prog_1_method_4_code
def yX9_town : MethodName := ⟨RX9, "town", "()I"⟩
abbrev cX9_fault : ByteArray := prog_1_method_5_code
def yX9_fault : MethodName := ⟨RX9, "fault", "(I)I"⟩
abbrev cX9_has : ByteArray := prog_1_method_6_code
def yX9_has : MethodName := ⟨RX9, "has", "(I)I"⟩
abbrev cX9_letter : ByteArray := prog_1_method_7_code
def yX9_letter : MethodName := ⟨RX9, "letter", "(III)I"⟩
abbrev cX9_gate : ByteArray := prog_1_method_8_code
def yX9_gate : MethodName := ⟨RX9, "gate", "(II)I"⟩
abbrev cX9_man : ByteArray := prog_1_method_9_code
def yX9_man : MethodName := ⟨RX9, "man", "(II)I"⟩
abbrev cX9_person : ByteArray := prog_1_method_10_code
def yX9_person : MethodName := ⟨RX9, "person", "(II)I"⟩
abbrev cX9_lets : ByteArray := prog_1_method_11_code
def yX9_lets : MethodName := ⟨RX9, "lets", "(II)I"⟩
abbrev cX9_way : ByteArray := prog_1_method_12_code
def yX9_way : MethodName := ⟨RX9, "way", "(II)I"⟩
abbrev cX9_reached : ByteArray := prog_1_method_13_code
def yX9_reached : MethodName := ⟨RX9, "reached", "(I)I"⟩
abbrev cX9_go : ByteArray := prog_1_method_14_code
def yX9_go : MethodName := ⟨RX9, "go", "(I)I"⟩
abbrev cX9_hour : ByteArray := prog_1_method_15_code
def yX9_hour : MethodName := ⟨RX9, "hour", "(I)I"⟩
abbrev cX9_night : ByteArray := prog_1_method_16_code
def yX9_night : MethodName := ⟨RX9, "night", "()I"⟩
abbrev cX9_friend : ByteArray := prog_1_method_17_code
def yX9_friend : MethodName := ⟨RX9, "friend", "(IIZ)Z"⟩
abbrev cX9_swap : ByteArray := prog_1_method_18_code
def yX9_swap : MethodName := ⟨RX9, "swap", "(II)Z"⟩
abbrev cX9_lots : ByteArray := prog_1_method_19_code
def yX9_lots : MethodName := ⟨RX9, "lots", "()I"⟩
abbrev cX9_undo : ByteArray := prog_1_method_20_code
def yX9_undo : MethodName := ⟨RX9, "undo", "()Z"⟩
abbrev cX9_seed : ByteArray := prog_1_method_21_code
def yX9_seed : MethodName := ⟨RX9, "seed", "(I)Z"⟩
abbrev cX9_burglar : ByteArray := prog_1_method_22_code
def yX9_burglar : MethodName := ⟨RX9, "burglar", "(III)I"⟩
abbrev cX9_tact : ByteArray := prog_1_method_23_code
def yX9_tact : MethodName := ⟨RX9, "tact", "(I)I"⟩
abbrev cX9_out : ByteArray := prog_1_method_24_code
def yX9_out : MethodName := ⟨RX9, "out", "(I)I"⟩
abbrev cX9_stand : ByteArray := prog_1_method_25_code
def yX9_stand : MethodName := ⟨RX9, "stand", "(I)I"⟩
abbrev cX9_exchange : ByteArray := prog_1_method_26_code
def yX9_exchange : MethodName := ⟨RX9, "exchange", "(I)I"⟩
abbrev cX9_see : ByteArray := prog_1_method_27_code
def yX9_see : MethodName := ⟨RX9, "see", "()I"⟩
abbrev cX9_seen : ByteArray := prog_1_method_28_code
def yX9_seen : MethodName := ⟨RX9, "seen", "()I"⟩
abbrev cX9_fire : ByteArray := prog_1_method_29_code
def yX9_fire : MethodName := ⟨RX9, "fire", "(I)I"⟩
abbrev cX9_image : ByteArray := prog_1_method_30_code
def yX9_image : MethodName := ⟨RX9, "image", "()I"⟩
abbrev cX9_octet : ByteArray := prog_1_method_31_code
def yX9_octet : MethodName := ⟨RX9, "octet", "(I)I"⟩
abbrev cX9_on : ByteArray := prog_1_method_32_code
def yX9_on : MethodName := ⟨RX9, "on", "()Z"⟩
abbrev cX9_within : ByteArray := prog_1_method_33_code
def yX9_within : MethodName := ⟨RX9, "within", "(II)Z"⟩
abbrev cX9_isGate : ByteArray := prog_1_method_34_code
def yX9_isGate : MethodName := ⟨RX9, "isGate", "(I)Z"⟩
abbrev cX9_isMan : ByteArray := prog_1_method_35_code
def yX9_isMan : MethodName := ⟨RX9, "isMan", "(I)Z"⟩
abbrev cX9_isPerson : ByteArray := prog_1_method_36_code
def yX9_isPerson : MethodName := ⟨RX9, "isPerson", "(I)Z"⟩
abbrev cX9_sumOf : ByteArray := prog_1_method_37_code
def yX9_sumOf : MethodName := ⟨RX9, "sumOf", "([III)I"⟩
abbrev cX9_exchangeIn : ByteArray := prog_1_method_38_code
def yX9_exchangeIn : MethodName := ⟨RX9, "exchangeIn", "([III)V"⟩
abbrev cX9_beginAct : ByteArray := prog_1_method_39_code
def yX9_beginAct : MethodName := ⟨RX9, "beginAct", "()V"⟩
abbrev cX9_faintedMen : ByteArray := prog_1_method_40_code
def yX9_faintedMen : MethodName := ⟨RX9, "faintedMen", "()I"⟩
abbrev cX9_friendships : ByteArray := prog_1_method_41_code
def yX9_friendships : MethodName := ⟨RX9, "friendships", "()I"⟩
abbrev cX9_friendsOf : ByteArray := prog_1_method_42_code
def yX9_friendsOf : MethodName := ⟨RX9, "friendsOf", "(I)I"⟩
abbrev cX9_gateOf : ByteArray := prog_1_method_43_code
def yX9_gateOf : MethodName := ⟨RX9, "gateOf", "(I)I"⟩
abbrev cX9_weighPrices : ByteArray := prog_1_method_44_code
def yX9_weighPrices : MethodName := ⟨RX9, "weighPrices", "(II)V"⟩
abbrev cX9_findWay : ByteArray := prog_1_method_45_code
def yX9_findWay : MethodName := ⟨RX9, "findWay", "(I)I"⟩
abbrev cX9_passGate : ByteArray := prog_1_method_46_code
def yX9_passGate : MethodName := ⟨RX9, "passGate", "(II)V"⟩
abbrev cX9_canPay : ByteArray := prog_1_method_47_code
def yX9_canPay : MethodName := ⟨RX9, "canPay", "(I)Z"⟩
abbrev cX9_draw : ByteArray := prog_1_method_48_code
def yX9_draw : MethodName := ⟨RX9, "draw", "(I)I"⟩
abbrev cX9_fitsSights : ByteArray := prog_1_method_49_code
def yX9_fitsSights : MethodName := ⟨RX9, "fitsSights", "(I)Z"⟩
abbrev cX9_fleeOneMinute : ByteArray := prog_1_method_50_code
def yX9_fleeOneMinute : MethodName := ⟨RX9, "fleeOneMinute", "()Z"⟩
def RX10 : String := "TenthManModel"
def TX10 : u_T := fun k => match k with
  | 0 => ("TenthManModel", "tape", "[I", true)
  | 1 => ("TenthManModel", "taped", "I", false)
  | 2 => ("TenthManModel", "at", "I", false)
  | 3 => ("TenthManModel", "end", "I", false)
  | 4 => ("TenthManModel", "ended", "I", false)
  | 5 => ("TenthManModel", "bad", "I", false)
  | 6 => ("TenthManModel", "badPlace", "I", false)
  | 7 => ("TenthManModel", "fault", "I", false)
  | 8 => ("TenthManModel", "faultPlace", "I", false)
  | 9 => ("TenthManModel", "roomWord", "[C", true)
  | 10 => ("TenthManModel", "manWord", "[C", true)
  | 11 => ("TenthManModel", "letsWord", "[C", true)
  | 12 => ("TenthManModel", "bribeWord", "[C", true)
  | 13 => ("TenthManModel", "tiresWord", "[C", true)
  | 14 => ("TenthManModel", "gateWord", "[C", true)
  | 15 => ("TenthManModel", "byWord", "[C", true)
  | 16 => ("TenthManModel", "personWord", "[C", true)
  | 17 => ("TenthManModel", "atWord", "[C", true)
  | 18 => ("TenthManModel", "toWord", "[C", true)
  | 19 => ("TenthManModel", "coinsWord", "[C", true)
  | 20 => ("TenthManModel", "tactWord", "[C", true)
  | 21 => ("TenthManModel", "hourWord", "[C", true)
  | 22 => ("TenthManModel", "passedWord", "[C", true)
  | 23 => ("TenthManModel", "whoWord", "[C", true)
  | 24 => ("TenthManModel", "dayWord", "[C", true)
  | 25 => ("TenthManModel", "orWord", "[C", true)
  | 26 => ("TenthManModel", "andWord", "[C", true)
  | 27 => ("TenthManModel", "notWord", "[C", true)
  | 28 => ("TenthManModel", "allWord", "[C", true)
  | 29 => ("TenthManModel", "minWord", "[C", true)
  | 30 => ("TenthManModel", "maxWord", "[C", true)
  | 31 => ("TenthManModel", "namePlace", "I", false)
  | 32 => ("TenthManModel", "many", "[I", true)
  | 33 => ("TenthManModel", "names", "[J", true)
  | 34 => ("TenthManModel", "tires", "[I", true)
  | 35 => ("TenthManModel", "hasGate", "[Z", true)
  | 36 => ("TenthManModel", "gates", "[I", true)
  | 37 => ("TenthManModel", "people", "[I", true)
  | 38 => ("TenthManModel", "hourTold", "I", false)
  | 39 => ("TenthManModel", "statements", "I", false)
  | 40 => ("TenthManModel", "codes", "[I", true)
  | 41 => ("TenthManModel", "coded", "I", false)
  | 42 => ("TenthManModel", "wait", "[I", true)
  | 43 => ("TenthManModel", "waits", "I", false)
  | 44 => ("TenthManModel", "open", "I", false)
  | 45 => ("TenthManModel", "testFrom", "[I", true)
  | 46 => ("TenthManModel", "testEnd", "[I", true)
  | 47 => ("TenthManModel", "sumEnd", "[I", true)
  | 48 => ("TenthManModel", "base", "I", false)
  | 49 => ("TenthManModel", "pile", "[J", true)
  | 50 => ("TenthManModel", "piled", "I", false)
  | 51 => ("TenthManModel", "ask", "[I", true)
  | 52 => ("TenthManModel", "now", "[I", true)
  | 53 => ("TenthManModel", "tacts", "[I", true)
  | 54 => ("TenthManModel", "gateCost", "[I", true)
  | 55 => ("TenthManModel", "coinsFrom", "[I", true)
  | 56 => ("TenthManModel", "gatesFrom", "[I", true)
  | 57 => ("TenthManModel", "kept", "[I", true)
  | 58 => ("TenthManModel", "undoable", "I", false)
  | 59 => ("TenthManModel", "newest", "I", false)
  | 60 => ("TenthManModel", "seeded", "J", false)
  | 61 => ("TenthManModel", "payMany", "I", false)
  | 62 => ("TenthManModel", "payCoins", "I", false)
  | 63 => ("TenthManModel", "bestMany", "I", false)
  | 64 => ("TenthManModel", "bestCoins", "I", false)
  | 65 => ("TenthManModel", "bestMen", "[I", true)
  | 66 => ("TenthManModel", "menNow", "[I", true)
  | 67 => ("TenthManModel", "rowMany", "I", false)
  | 68 => ("TenthManModel", "rows", "[I", true)
  | 69 => ("TenthManModel", "fled", "[I", true)
  | 70 => ("TenthManModel", "octet", "[I", true)
  | _ => ("TenthManModel", "octets", "I", false)
def tyX10 : Nat → FieldType := fun k => match k with
  | 0 => .array .int
  | 1 => .int
  | 2 => .int
  | 3 => .int
  | 4 => .int
  | 5 => .int
  | 6 => .int
  | 7 => .int
  | 8 => .int
  | 9 => .array .char
  | 10 => .array .char
  | 11 => .array .char
  | 12 => .array .char
  | 13 => .array .char
  | 14 => .array .char
  | 15 => .array .char
  | 16 => .array .char
  | 17 => .array .char
  | 18 => .array .char
  | 19 => .array .char
  | 20 => .array .char
  | 21 => .array .char
  | 22 => .array .char
  | 23 => .array .char
  | 24 => .array .char
  | 25 => .array .char
  | 26 => .array .char
  | 27 => .array .char
  | 28 => .array .char
  | 29 => .array .char
  | 30 => .array .char
  | 31 => .int
  | 32 => .array .int
  | 33 => .array .long
  | 34 => .array .int
  | 35 => .array .boolean
  | 36 => .array .int
  | 37 => .array .int
  | 38 => .int
  | 39 => .int
  | 40 => .array .int
  | 41 => .int
  | 42 => .array .int
  | 43 => .int
  | 44 => .int
  | 45 => .array .int
  | 46 => .array .int
  | 47 => .array .int
  | 48 => .int
  | 49 => .array .long
  | 50 => .int
  | 51 => .array .int
  | 52 => .array .int
  | 53 => .array .int
  | 54 => .array .int
  | 55 => .array .int
  | 56 => .array .int
  | 57 => .array .int
  | 58 => .int
  | 59 => .int
  | 60 => .long
  | 61 => .int
  | 62 => .int
  | 63 => .int
  | 64 => .int
  | 65 => .array .int
  | 66 => .array .int
  | 67 => .int
  | 68 => .array .int
  | 69 => .array .int
  | 70 => .array .int
  | _ => .int
abbrev wsX100 : List Cond := u_ws RX10 TX10 72
theorem nmX10 : ∀ a, a < 72 → ∀ b, b < 72 → a ≠ b → (TX10 a).2.1 ≠ (TX10 b).2.1 := by decide +kernel
theorem tyX10_ok : ∀ k, k < 72 → parseFieldDescriptor (TX10 k).2.2.1 = some (tyX10 k) := by decide +kernel
abbrev cX10_init : ByteArray := prog_12_method_1_code
def yX10_init : MethodName := ⟨RX10, "<init>", "()V"⟩
abbrev cX10_isIn : ByteArray := prog_12_method_2_code
def yX10_isIn : MethodName := ⟨RX10, "isIn", "(JJJ)Z"⟩
abbrev cX10_feed : ByteArray := prog_12_method_3_code
def yX10_feed : MethodName := ⟨RX10, "feed", "(IIIII)I"⟩
abbrev cX10_end : ByteArray := prog_12_method_4_code
def yX10_end : MethodName := ⟨RX10, "end", "(I)Z"⟩
abbrev cX10_fail : ByteArray := prog_12_method_5_code
def yX10_fail : MethodName := ⟨RX10, "fail", "(II)V"⟩
abbrev cX10_isLetter : ByteArray := prog_12_method_6_code
def yX10_isLetter : MethodName := ⟨RX10, "isLetter", "(I)Z"⟩
abbrev cX10_isDigit : ByteArray := prog_12_method_7_code
def yX10_isDigit : MethodName := ⟨RX10, "isDigit", "(I)Z"⟩
abbrev cX10_look : ByteArray := prog_12_method_8_code
def yX10_look : MethodName := ⟨RX10, "look", "()I"⟩
abbrev cX10_isHere : ByteArray := prog_12_method_9_code
def yX10_isHere : MethodName := ⟨RX10, "isHere", "([C)Z"⟩
abbrev cX10_takes : ByteArray := prog_12_method_10_code
def yX10_takes : MethodName := ⟨RX10, "takes", "([C)Z"⟩
abbrev cX10_asks : ByteArray := prog_12_method_11_code
def yX10_asks : MethodName := ⟨RX10, "asks", "([C)V"⟩
abbrev cX10_takesSign : ByteArray := prog_12_method_12_code
def yX10_takesSign : MethodName := ⟨RX10, "takesSign", "(I)Z"⟩
abbrev cX10_asksSign : ByteArray := prog_12_method_13_code
def yX10_asksSign : MethodName := ⟨RX10, "asksSign", "(I)V"⟩
abbrev cX10_number : ByteArray := prog_12_method_14_code
def yX10_number : MethodName := ⟨RX10, "number", "(II)I"⟩
abbrev cX10_isOwnHere : ByteArray := prog_12_method_15_code
def yX10_isOwnHere : MethodName := ⟨RX10, "isOwnHere", "()Z"⟩
abbrev cX10_name : ByteArray := prog_12_method_16_code
def yX10_name : MethodName := ⟨RX10, "name", "()J"⟩
abbrev cX10_isFull : ByteArray := prog_12_method_17_code
def yX10_isFull : MethodName := ⟨RX10, "isFull", "(III)Z"⟩
abbrev cX10_nameOf : ByteArray := prog_12_method_18_code
def yX10_nameOf : MethodName := ⟨RX10, "nameOf", "(IJ)I"⟩
abbrev cX10_newName : ByteArray := prog_12_method_19_code
def yX10_newName : MethodName := ⟨RX10, "newName", "()J"⟩
abbrev cX10_oneOf : ByteArray := prog_12_method_20_code
def yX10_oneOf : MethodName := ⟨RX10, "oneOf", "(I)I"⟩
abbrev cX10_roomTold : ByteArray := prog_12_method_21_code
def yX10_roomTold : MethodName := ⟨RX10, "roomTold", "(I)V"⟩
abbrev cX10_clears : ByteArray := prog_12_method_22_code
def yX10_clears : MethodName := ⟨RX10, "clears", "()V"⟩
abbrev cX10_manTold : ByteArray := prog_12_method_23_code
def yX10_manTold : MethodName := ⟨RX10, "manTold", "(I)V"⟩
abbrev cX10_gateTold : ByteArray := prog_12_method_24_code
def yX10_gateTold : MethodName := ⟨RX10, "gateTold", "(I)V"⟩
abbrev cX10_personTold : ByteArray := prog_12_method_25_code
def yX10_personTold : MethodName := ⟨RX10, "personTold", "(I)V"⟩
abbrev cX10_statementTold : ByteArray := prog_12_method_26_code
def yX10_statementTold : MethodName := ⟨RX10, "statementTold", "()V"⟩
abbrev cX10_town : ByteArray := prog_12_method_27_code
def yX10_town : MethodName := ⟨RX10, "town", "()I"⟩
abbrev cX10_stands : ByteArray := prog_12_method_28_code
def yX10_stands : MethodName := ⟨RX10, "stands", "()V"⟩
abbrev cX10_code : ByteArray := prog_12_method_29_code
def yX10_code : MethodName := ⟨RX10, "code", "(I)V"⟩
abbrev cX10_opens : ByteArray := prog_12_method_30_code
def yX10_opens : MethodName := ⟨RX10, "opens", "(II)V"⟩
abbrev cX10_isOn : ByteArray := prog_12_method_31_code
def yX10_isOn : MethodName := ⟨RX10, "isOn", "(I)Z"⟩
abbrev cX10_drops : ByteArray := prog_12_method_32_code
def yX10_drops : MethodName := ⟨RX10, "drops", "()V"⟩
abbrev cX10_isMark : ByteArray := prog_12_method_33_code
def yX10_isMark : MethodName := ⟨RX10, "isMark", "(I)Z"⟩
abbrev cX10_waitsLast : ByteArray := prog_12_method_34_code
def yX10_waitsLast : MethodName := ⟨RX10, "waitsLast", "()I"⟩
abbrev cX10_dropsToMark : ByteArray := prog_12_method_35_code
def yX10_dropsToMark : MethodName := ⟨RX10, "dropsToMark", "()V"⟩
abbrev cX10_onePart : ByteArray := prog_12_method_36_code
def yX10_onePart : MethodName := ⟨RX10, "onePart", "()V"⟩
abbrev cX10_goesOn : ByteArray := prog_12_method_37_code
def yX10_goesOn : MethodName := ⟨RX10, "goesOn", "()Z"⟩
abbrev cX10_sumsTold : ByteArray := prog_12_method_38_code
def yX10_sumsTold : MethodName := ⟨RX10, "sumsTold", "()V"⟩
abbrev cX10_fact : ByteArray := prog_12_method_39_code
def yX10_fact : MethodName := ⟨RX10, "fact", "()V"⟩
abbrev cX10_hasSquare : ByteArray := prog_12_method_40_code
def yX10_hasSquare : MethodName := ⟨RX10, "hasSquare", "()Z"⟩
abbrev cX10_dropsNots : ByteArray := prog_12_method_41_code
def yX10_dropsNots : MethodName := ⟨RX10, "dropsNots", "()V"⟩
abbrev cX10_test : ByteArray := prog_12_method_42_code
def yX10_test : MethodName := ⟨RX10, "test", "()V"⟩
abbrev cX10_goesOnTest : ByteArray := prog_12_method_43_code
def yX10_goesOnTest : MethodName := ⟨RX10, "goesOnTest", "()Z"⟩
abbrev cX10_fault : ByteArray := prog_12_method_44_code
def yX10_fault : MethodName := ⟨RX10, "fault", "(I)I"⟩
abbrev cX10_clip : ByteArray := prog_12_method_45_code
def yX10_clip : MethodName := ⟨RX10, "clip", "(J)J"⟩
abbrev cX10_floor : ByteArray := prog_12_method_46_code
def yX10_floor : MethodName := ⟨RX10, "floor", "(JJ)J"⟩
abbrev cX10_puts : ByteArray := prog_12_method_47_code
def yX10_puts : MethodName := ⟨RX10, "puts", "(J)V"⟩
abbrev cX10_joins : ByteArray := prog_12_method_48_code
def yX10_joins : MethodName := ⟨RX10, "joins", "(I)V"⟩
abbrev cX10_told : ByteArray := prog_12_method_49_code
def yX10_told : MethodName := ⟨RX10, "told", "(II)J"⟩
abbrev cX10_roomMany : ByteArray := prog_12_method_50_code
def yX10_roomMany : MethodName := ⟨RX10, "roomMany", "()I"⟩
abbrev cX10_manMany : ByteArray := prog_12_method_51_code
def yX10_manMany : MethodName := ⟨RX10, "manMany", "()I"⟩
abbrev cX10_gateMany : ByteArray := prog_12_method_52_code
def yX10_gateMany : MethodName := ⟨RX10, "gateMany", "()I"⟩
abbrev cX10_personMany : ByteArray := prog_12_method_53_code
def yX10_personMany : MethodName := ⟨RX10, "personMany", "()I"⟩
abbrev cX10_isRoom : ByteArray := prog_12_method_54_code
def yX10_isRoom : MethodName := ⟨RX10, "isRoom", "(I)Z"⟩
abbrev cX10_isMan : ByteArray := prog_12_method_55_code
def yX10_isMan : MethodName := ⟨RX10, "isMan", "(I)Z"⟩
abbrev cX10_isGate : ByteArray := prog_12_method_56_code
def yX10_isGate : MethodName := ⟨RX10, "isGate", "(I)Z"⟩
abbrev cX10_isPerson : ByteArray := prog_12_method_57_code
def yX10_isPerson : MethodName := ⟨RX10, "isPerson", "(I)Z"⟩
abbrev cX10_manAt : ByteArray := prog_12_method_58_code
def yX10_manAt : MethodName := ⟨RX10, "manAt", "(I)I"⟩
abbrev cX10_gateOf : ByteArray := prog_12_method_59_code
def yX10_gateOf : MethodName := ⟨RX10, "gateOf", "(I)I"⟩
abbrev cX10_personOf : ByteArray := prog_12_method_60_code
def yX10_personOf : MethodName := ⟨RX10, "personOf", "(II)I"⟩
abbrev cX10_hasFainted : ByteArray := prog_12_method_61_code
def yX10_hasFainted : MethodName := ⟨RX10, "hasFainted", "(I)Z"⟩
abbrev cX10_areFriends : ByteArray := prog_12_method_62_code
def yX10_areFriends : MethodName := ⟨RX10, "areFriends", "(II)Z"⟩
abbrev cX10_plainly : ByteArray := prog_12_method_63_code
def yX10_plainly : MethodName := ⟨RX10, "plainly", "(IIII)I"⟩
abbrev cX10_costOf : ByteArray := prog_12_method_64_code
def yX10_costOf : MethodName := ⟨RX10, "costOf", "(II)I"⟩
abbrev cX10_firstRoom : ByteArray := prog_12_method_65_code
def yX10_firstRoom : MethodName := ⟨RX10, "firstRoom", "(I)I"⟩
abbrev cX10_otherRoom : ByteArray := prog_12_method_66_code
def yX10_otherRoom : MethodName := ⟨RX10, "otherRoom", "(I)I"⟩
abbrev cX10_behind : ByteArray := prog_12_method_67_code
def yX10_behind : MethodName := ⟨RX10, "behind", "(II)I"⟩
abbrev cX10_costs : ByteArray := prog_12_method_68_code
def yX10_costs : MethodName := ⟨RX10, "costs", "(I)V"⟩
abbrev cX10_improves : ByteArray := prog_12_method_69_code
def yX10_improves : MethodName := ⟨RX10, "improves", "(III)Z"⟩
abbrev cX10_finds : ByteArray := prog_12_method_70_code
def yX10_finds : MethodName := ⟨RX10, "finds", "(II)V"⟩
abbrev cX10_canPay : ByteArray := prog_12_method_71_code
def yX10_canPay : MethodName := ⟨RX10, "canPay", "(II)Z"⟩
abbrev cX10_nextGate : ByteArray := prog_12_method_72_code
def yX10_nextGate : MethodName := ⟨RX10, "nextGate", "(I)I"⟩
abbrev cX10_countOf : ByteArray := prog_12_method_73_code
def yX10_countOf : MethodName := ⟨RX10, "countOf", "(I)I"⟩
abbrev cX10_bits : ByteArray := prog_12_method_74_code
def yX10_bits : MethodName := ⟨RX10, "bits", "(I)I"⟩
abbrev cX10_has : ByteArray := prog_12_method_75_code
def yX10_has : MethodName := ⟨RX10, "has", "(I)I"⟩
abbrev cX10_letter : ByteArray := prog_12_method_76_code
def yX10_letter : MethodName := ⟨RX10, "letter", "(III)I"⟩
abbrev cX10_gate : ByteArray := prog_12_method_77_code
def yX10_gate : MethodName := ⟨RX10, "gate", "(II)I"⟩
abbrev cX10_friendsOf : ByteArray := prog_12_method_78_code
def yX10_friendsOf : MethodName := ⟨RX10, "friendsOf", "(I)I"⟩
abbrev cX10_man : ByteArray := prog_12_method_79_code
def yX10_man : MethodName := ⟨RX10, "man", "(II)I"⟩
abbrev cX10_person : ByteArray := prog_12_method_80_code
def yX10_person : MethodName := ⟨RX10, "person", "(II)I"⟩
abbrev cX10_lets : ByteArray := prog_12_method_81_code
def yX10_lets : MethodName := ⟨RX10, "lets", "(II)I"⟩
abbrev cX10_way : ByteArray := prog_12_method_82_code
def yX10_way : MethodName := ⟨RX10, "way", "(II)I"⟩
abbrev cX10_freely : ByteArray := prog_12_method_83_code
def yX10_freely : MethodName := ⟨RX10, "freely", "(I)I"⟩
abbrev cX10_reached : ByteArray := prog_12_method_84_code
def yX10_reached : MethodName := ⟨RX10, "reached", "(I)I"⟩
abbrev cX10_keeps : ByteArray := prog_12_method_85_code
def yX10_keeps : MethodName := ⟨RX10, "keeps", "()V"⟩
abbrev cX10_undo : ByteArray := prog_12_method_86_code
def yX10_undo : MethodName := ⟨RX10, "undo", "()Z"⟩
abbrev cX10_go : ByteArray := prog_12_method_87_code
def yX10_go : MethodName := ⟨RX10, "go", "(I)I"⟩
abbrev cX10_hour : ByteArray := prog_12_method_88_code
def yX10_hour : MethodName := ⟨RX10, "hour", "(I)I"⟩
abbrev cX10_night : ByteArray := prog_12_method_89_code
def yX10_night : MethodName := ⟨RX10, "night", "()I"⟩
abbrev cX10_friend : ByteArray := prog_12_method_90_code
def yX10_friend : MethodName := ⟨RX10, "friend", "(IIZ)Z"⟩
abbrev cX10_changes : ByteArray := prog_12_method_91_code
def yX10_changes : MethodName := ⟨RX10, "changes", "(II)V"⟩
abbrev cX10_swap : ByteArray := prog_12_method_92_code
def yX10_swap : MethodName := ⟨RX10, "swap", "(II)Z"⟩
abbrev cX10_seed : ByteArray := prog_12_method_93_code
def yX10_seed : MethodName := ⟨RX10, "seed", "(I)Z"⟩
abbrev cX10_drawOf : ByteArray := prog_12_method_94_code
def yX10_drawOf : MethodName := ⟨RX10, "drawOf", "(I)I"⟩
abbrev cX10_lots : ByteArray := prog_12_method_95_code
def yX10_lots : MethodName := ⟨RX10, "lots", "()I"⟩
abbrev cX10_burglar : ByteArray := prog_12_method_96_code
def yX10_burglar : MethodName := ⟨RX10, "burglar", "(III)I"⟩
abbrev cX10_tact : ByteArray := prog_12_method_97_code
def yX10_tact : MethodName := ⟨RX10, "tact", "(I)I"⟩
abbrev cX10_out : ByteArray := prog_12_method_98_code
def yX10_out : MethodName := ⟨RX10, "out", "(I)I"⟩
abbrev cX10_weighs : ByteArray := prog_12_method_99_code
def yX10_weighs : MethodName := ⟨RX10, "weighs", "()V"⟩
abbrev cX10_isBetter : ByteArray := prog_12_method_100_code
def yX10_isBetter : MethodName := ⟨RX10, "isBetter", "()Z"⟩
abbrev cX10_isBest : ByteArray := prog_12_method_101_code
def yX10_isBest : MethodName := ⟨RX10, "isBest", "()V"⟩
abbrev cX10_putsAside : ByteArray := prog_12_method_102_code
def yX10_putsAside : MethodName := ⟨RX10, "putsAside", "()V"⟩
abbrev cX10_takesBack : ByteArray := prog_12_method_103_code
def yX10_takesBack : MethodName := ⟨RX10, "takesBack", "()V"⟩
abbrev cX10_standsBy : ByteArray := prog_12_method_104_code
def yX10_standsBy : MethodName := ⟨RX10, "standsBy", "(I)V"⟩
abbrev cX10_nthOf : ByteArray := prog_12_method_105_code
def yX10_nthOf : MethodName := ⟨RX10, "nthOf", "(II)I"⟩
abbrev cX10_standTold : ByteArray := prog_12_method_106_code
def yX10_standTold : MethodName := ⟨RX10, "standTold", "(I)I"⟩
abbrev cX10_stand : ByteArray := prog_12_method_107_code
def yX10_stand : MethodName := ⟨RX10, "stand", "(I)I"⟩
abbrev cX10_exchanges : ByteArray := prog_12_method_108_code
def yX10_exchanges : MethodName := ⟨RX10, "exchanges", "()Z"⟩
abbrev cX10_exchange : ByteArray := prog_12_method_109_code
def yX10_exchange : MethodName := ⟨RX10, "exchange", "(I)I"⟩
abbrev cX10_see : ByteArray := prog_12_method_110_code
def yX10_see : MethodName := ⟨RX10, "see", "()I"⟩
abbrev cX10_isSeen : ByteArray := prog_12_method_111_code
def yX10_isSeen : MethodName := ⟨RX10, "isSeen", "(I)Z"⟩
abbrev cX10_seen : ByteArray := prog_12_method_112_code
def yX10_seen : MethodName := ⟨RX10, "seen", "()I"⟩
abbrev cX10_minuteGoes : ByteArray := prog_12_method_113_code
def yX10_minuteGoes : MethodName := ⟨RX10, "minuteGoes", "()Z"⟩
abbrev cX10_fire : ByteArray := prog_12_method_114_code
def yX10_fire : MethodName := ⟨RX10, "fire", "(I)I"⟩
abbrev cX10_checked : ByteArray := prog_12_method_115_code
def yX10_checked : MethodName := ⟨RX10, "checked", "([II)I"⟩
abbrev cX10_writes : ByteArray := prog_12_method_116_code
def yX10_writes : MethodName := ⟨RX10, "writes", "(II)V"⟩
abbrev cX10_image : ByteArray := prog_12_method_117_code
def yX10_image : MethodName := ⟨RX10, "image", "()I"⟩
abbrev cX10_octet : ByteArray := prog_12_method_118_code
def yX10_octet : MethodName := ⟨RX10, "octet", "(I)I"⟩
abbrev cX10_tapeAt : ByteArray := prog_12_method_119_code
def yX10_tapeAt : MethodName := ⟨RX10, "tapeAt", "(I)I"⟩
abbrev cX10_areMenTold : ByteArray := prog_12_method_120_code
def yX10_areMenTold : MethodName := ⟨RX10, "areMenTold", "()Z"⟩
abbrev cX10_isTold : ByteArray := prog_12_method_121_code
def yX10_isTold : MethodName := ⟨RX10, "isTold", "(I)Z"⟩
abbrev cX10_on : ByteArray := prog_12_method_122_code
def yX10_on : MethodName := ⟨RX10, "on", "()Z"⟩
def RJ6 : String := "java/lang/Integer"
abbrev cJ6_bitCount_0f7a4 : ByteArray := prog_13_method_49_code
def yJ6_bitCount_0f7a4 : MethodName := ⟨RJ6, "bitCount", "(I)I"⟩
def RJ9 : String := "java/lang/Math"
abbrev cJ9_floorDiv_7cf53 : ByteArray := prog_14_method_47_code
def yJ9_floorDiv_7cf53 : MethodName := ⟨RJ9, "floorDiv", "(II)I"⟩
abbrev cJ9_max_7cf53 : ByteArray := prog_14_method_65_code
def yJ9_max_7cf53 : MethodName := ⟨RJ9, "max", "(II)I"⟩
abbrev cJ9_max_f86c9 : ByteArray := prog_14_method_66_code
def yJ9_max_f86c9 : MethodName := ⟨RJ9, "max", "(JJ)J"⟩
abbrev cJ9_min_7cf53 : ByteArray := prog_14_method_69_code
def yJ9_min_7cf53 : MethodName := ⟨RJ9, "min", "(II)I"⟩
abbrev cJ9_min_f86c9 : ByteArray := prog_14_method_70_code
def yJ9_min_f86c9 : MethodName := ⟨RJ9, "min", "(JJ)J"⟩
def RJ0 : String := "java/lang/String"
abbrev cJ0_charAt_5068e : ByteArray := prog_15_method_56_code
def yJ0_charAt_5068e : MethodName := ⟨RJ0, "charAt", "(I)C"⟩
abbrev cJ0_isLatin1_aae02 : ByteArray := prog_15_method_154_code
def yJ0_isLatin1_aae02 : MethodName := ⟨RJ0, "isLatin1", "()Z"⟩
abbrev cJ0_checkIndex_df160 : ByteArray := prog_15_method_155_code
def yJ0_checkIndex_df160 : MethodName := ⟨RJ0, "checkIndex", "(II)V"⟩
def RJ1 : String := "java/lang/StringLatin1"
abbrev cJ1_charAt_3b067 : ByteArray := prog_16_method_2_code
def yJ1_charAt_3b067 : MethodName := ⟨RJ1, "charAt", "([BI)C"⟩
def RJ2 : String := "java/lang/StringUTF16"
abbrev cJ2_getChar_3b067 : ByteArray := prog_17_method_5_code
def yJ2_getChar_3b067 : MethodName := ⟨RJ2, "getChar", "([BI)C"⟩
abbrev cJ2_length_9d52b : ByteArray := prog_17_method_6_code
def yJ2_length_9d52b : MethodName := ⟨RJ2, "length", "([B)I"⟩
abbrev cJ2_charAt_3b067 : ByteArray := prog_17_method_83_code
def yJ2_charAt_3b067 : MethodName := ⟨RJ2, "charAt", "([BI)C"⟩
abbrev cJ2_checkIndex_2214a : ByteArray := prog_17_method_91_code
def yJ2_checkIndex_2214a : MethodName := ⟨RJ2, "checkIndex", "(I[B)V"⟩
def RJ10 : String := "java/lang/System"
def RJ7 : String := "java/util/Arrays"
abbrev cJ7_fill_53178 : ByteArray := prog_19_method_103_code
def yJ7_fill_53178 : MethodName := ⟨RJ7, "fill", "([II)V"⟩
def RJ3 : String := "jdk/internal/util/Preconditions"
abbrev cJ3_checkIndex_8e157 : ByteArray := prog_20_method_11_code
def yJ3_checkIndex_8e157 : MethodName := ⟨RJ3, "checkIndex", "(IILjava/util/function/BiFunction;)I"⟩
theorem dJ0_charAt_5068e_0 : decode cJ0_charAt_5068e 0 = .ok (.aload_n 0, 1) := by decide +kernel
theorem dJ0_charAt_5068e_1 : decode cJ0_charAt_5068e 1 = .ok (.invokevirtual 492, 3) := by decide +kernel
theorem dJ0_charAt_5068e_4 : decode cJ0_charAt_5068e 4 = .ok (.ifCond .eq 12, 3) := by decide +kernel
theorem dJ0_charAt_5068e_7 : decode cJ0_charAt_5068e 7 = .ok (.aload_n 0, 1) := by decide +kernel
theorem dJ0_charAt_5068e_8 : decode cJ0_charAt_5068e 8 = .ok (.getfield 9, 3) := by decide +kernel
theorem dJ0_charAt_5068e_11 : decode cJ0_charAt_5068e 11 = .ok (.iload_n 1, 1) := by decide +kernel
theorem dJ0_charAt_5068e_12 : decode cJ0_charAt_5068e 12 = .ok (.invokestatic 495, 3) := by decide +kernel
theorem dJ0_charAt_5068e_15 : decode cJ0_charAt_5068e 15 = .ok (.ireturn, 1) := by decide +kernel
theorem dJ0_charAt_5068e_16 : decode cJ0_charAt_5068e 16 = .ok (.aload_n 0, 1) := by decide +kernel
theorem dJ0_charAt_5068e_17 : decode cJ0_charAt_5068e 17 = .ok (.getfield 9, 3) := by decide +kernel
theorem dJ0_charAt_5068e_20 : decode cJ0_charAt_5068e 20 = .ok (.iload_n 1, 1) := by decide +kernel
theorem dJ0_charAt_5068e_21 : decode cJ0_charAt_5068e 21 = .ok (.invokestatic 498, 3) := by decide +kernel
theorem dJ0_charAt_5068e_24 : decode cJ0_charAt_5068e 24 = .ok (.ireturn, 1) := by decide +kernel
theorem dJ0_isLatin1_aae02_0 : decode cJ0_isLatin1_aae02 0 = .ok (.getstatic 38, 3) := by decide +kernel
theorem dJ0_isLatin1_aae02_3 : decode cJ0_isLatin1_aae02 3 = .ok (.ifCond .eq 14, 3) := by decide +kernel
theorem dJ0_isLatin1_aae02_6 : decode cJ0_isLatin1_aae02 6 = .ok (.aload_n 0, 1) := by decide +kernel
theorem dJ0_isLatin1_aae02_7 : decode cJ0_isLatin1_aae02 7 = .ok (.getfield 15, 3) := by decide +kernel
theorem dJ0_isLatin1_aae02_10 : decode cJ0_isLatin1_aae02 10 = .ok (.ifCond .ne 7, 3) := by decide +kernel
theorem dJ0_isLatin1_aae02_13 : decode cJ0_isLatin1_aae02 13 = .ok (.iconst 1, 1) := by decide +kernel
theorem dJ0_isLatin1_aae02_14 : decode cJ0_isLatin1_aae02 14 = .ok (.goto 4, 3) := by decide +kernel
theorem dJ0_isLatin1_aae02_17 : decode cJ0_isLatin1_aae02 17 = .ok (.iconst 0, 1) := by decide +kernel
theorem dJ0_isLatin1_aae02_18 : decode cJ0_isLatin1_aae02 18 = .ok (.ireturn, 1) := by decide +kernel
theorem dJ0_checkIndex_df160_0 : decode cJ0_checkIndex_df160 0 = .ok (.iload_n 0, 1) := by decide +kernel
theorem dJ0_checkIndex_df160_1 : decode cJ0_checkIndex_df160 1 = .ok (.iload_n 1, 1) := by decide +kernel
theorem dJ0_checkIndex_df160_2 : decode cJ0_checkIndex_df160 2 = .ok (.getstatic 1053, 3) := by decide +kernel
theorem dJ0_checkIndex_df160_5 : decode cJ0_checkIndex_df160 5 = .ok (.invokestatic 1059, 3) := by decide +kernel
theorem dJ0_checkIndex_df160_8 : decode cJ0_checkIndex_df160 8 = .ok (.pop, 1) := by decide +kernel
theorem dJ0_checkIndex_df160_9 : decode cJ0_checkIndex_df160 9 = .ok (.return_, 1) := by decide +kernel
theorem dJ1_charAt_3b067_0 : decode cJ1_charAt_3b067 0 = .ok (.iload_n 1, 1) := by decide +kernel
theorem dJ1_charAt_3b067_1 : decode cJ1_charAt_3b067 1 = .ok (.aload_n 0, 1) := by decide +kernel
theorem dJ1_charAt_3b067_2 : decode cJ1_charAt_3b067 2 = .ok (.arraylength, 1) := by decide +kernel
theorem dJ1_charAt_3b067_3 : decode cJ1_charAt_3b067 3 = .ok (.invokestatic 9, 3) := by decide +kernel
theorem dJ1_charAt_3b067_6 : decode cJ1_charAt_3b067 6 = .ok (.aload_n 0, 1) := by decide +kernel
theorem dJ1_charAt_3b067_7 : decode cJ1_charAt_3b067 7 = .ok (.iload_n 1, 1) := by decide +kernel
theorem dJ1_charAt_3b067_8 : decode cJ1_charAt_3b067 8 = .ok (.baload, 1) := by decide +kernel
theorem dJ1_charAt_3b067_9 : decode cJ1_charAt_3b067 9 = .ok (.sipush 255, 3) := by decide +kernel
theorem dJ1_charAt_3b067_12 : decode cJ1_charAt_3b067 12 = .ok (.iand, 1) := by decide +kernel
theorem dJ1_charAt_3b067_13 : decode cJ1_charAt_3b067 13 = .ok (.i2c, 1) := by decide +kernel
theorem dJ1_charAt_3b067_14 : decode cJ1_charAt_3b067 14 = .ok (.ireturn, 1) := by decide +kernel
theorem dJ2_getChar_3b067_0 : decode cJ2_getChar_3b067 0 = .ok (.getstatic 44, 3) := by decide +kernel
theorem dJ2_getChar_3b067_3 : decode cJ2_getChar_3b067 3 = .ok (.ifCond .ne 25, 3) := by decide +kernel
theorem dJ2_getChar_3b067_6 : decode cJ2_getChar_3b067 6 = .ok (.iload_n 1, 1) := by decide +kernel
theorem dJ2_getChar_3b067_7 : decode cJ2_getChar_3b067 7 = .ok (.ifCond .lt 11, 3) := by decide +kernel
theorem dJ2_getChar_3b067_10 : decode cJ2_getChar_3b067 10 = .ok (.iload_n 1, 1) := by decide +kernel
theorem dJ2_getChar_3b067_11 : decode cJ2_getChar_3b067 11 = .ok (.aload_n 0, 1) := by decide +kernel
theorem dJ2_getChar_3b067_12 : decode cJ2_getChar_3b067 12 = .ok (.invokestatic 48, 3) := by decide +kernel
theorem dJ2_getChar_3b067_15 : decode cJ2_getChar_3b067 15 = .ok (.if_icmp .lt 13, 3) := by decide +kernel
theorem dJ2_getChar_3b067_18 : decode cJ2_getChar_3b067 18 = .ok (.new 52, 3) := by decide +kernel
theorem dJ2_getChar_3b067_21 : decode cJ2_getChar_3b067 21 = .ok (.dup, 1) := by decide +kernel
theorem dJ2_getChar_3b067_22 : decode cJ2_getChar_3b067 22 = .ok (.ldc 54, 2) := by decide +kernel
theorem dJ2_getChar_3b067_24 : decode cJ2_getChar_3b067 24 = .ok (.invokespecial 56, 3) := by decide +kernel
theorem dJ2_getChar_3b067_27 : decode cJ2_getChar_3b067 27 = .ok (.athrow, 1) := by decide +kernel
theorem dJ2_getChar_3b067_28 : decode cJ2_getChar_3b067 28 = .ok (.iload_n 1, 1) := by decide +kernel
theorem dJ2_getChar_3b067_29 : decode cJ2_getChar_3b067 29 = .ok (.iconst 1, 1) := by decide +kernel
theorem dJ2_getChar_3b067_30 : decode cJ2_getChar_3b067 30 = .ok (.ishl, 1) := by decide +kernel
theorem dJ2_getChar_3b067_31 : decode cJ2_getChar_3b067 31 = .ok (.istore_n 1, 1) := by decide +kernel
theorem dJ2_getChar_3b067_32 : decode cJ2_getChar_3b067 32 = .ok (.aload_n 0, 1) := by decide +kernel
theorem dJ2_getChar_3b067_33 : decode cJ2_getChar_3b067 33 = .ok (.iload_n 1, 1) := by decide +kernel
theorem dJ2_getChar_3b067_34 : decode cJ2_getChar_3b067 34 = .ok (.iinc 1 1, 3) := by decide +kernel
theorem dJ2_getChar_3b067_37 : decode cJ2_getChar_3b067 37 = .ok (.baload, 1) := by decide +kernel
theorem dJ2_getChar_3b067_38 : decode cJ2_getChar_3b067 38 = .ok (.sipush 255, 3) := by decide +kernel
theorem dJ2_getChar_3b067_41 : decode cJ2_getChar_3b067 41 = .ok (.iand, 1) := by decide +kernel
theorem dJ2_getChar_3b067_42 : decode cJ2_getChar_3b067 42 = .ok (.getstatic 59, 3) := by decide +kernel
theorem dJ2_getChar_3b067_45 : decode cJ2_getChar_3b067 45 = .ok (.ishl, 1) := by decide +kernel
theorem dJ2_getChar_3b067_46 : decode cJ2_getChar_3b067 46 = .ok (.aload_n 0, 1) := by decide +kernel
theorem dJ2_getChar_3b067_47 : decode cJ2_getChar_3b067 47 = .ok (.iload_n 1, 1) := by decide +kernel
theorem dJ2_getChar_3b067_48 : decode cJ2_getChar_3b067 48 = .ok (.baload, 1) := by decide +kernel
theorem dJ2_getChar_3b067_49 : decode cJ2_getChar_3b067 49 = .ok (.sipush 255, 3) := by decide +kernel
theorem dJ2_getChar_3b067_52 : decode cJ2_getChar_3b067 52 = .ok (.iand, 1) := by decide +kernel
theorem dJ2_getChar_3b067_53 : decode cJ2_getChar_3b067 53 = .ok (.getstatic 63, 3) := by decide +kernel
theorem dJ2_getChar_3b067_56 : decode cJ2_getChar_3b067 56 = .ok (.ishl, 1) := by decide +kernel
theorem dJ2_getChar_3b067_57 : decode cJ2_getChar_3b067 57 = .ok (.ior, 1) := by decide +kernel
theorem dJ2_getChar_3b067_58 : decode cJ2_getChar_3b067 58 = .ok (.i2c, 1) := by decide +kernel
theorem dJ2_getChar_3b067_59 : decode cJ2_getChar_3b067 59 = .ok (.ireturn, 1) := by decide +kernel
theorem dJ2_length_9d52b_0 : decode cJ2_length_9d52b 0 = .ok (.aload_n 0, 1) := by decide +kernel
theorem dJ2_length_9d52b_1 : decode cJ2_length_9d52b 1 = .ok (.arraylength, 1) := by decide +kernel
theorem dJ2_length_9d52b_2 : decode cJ2_length_9d52b 2 = .ok (.iconst 1, 1) := by decide +kernel
theorem dJ2_length_9d52b_3 : decode cJ2_length_9d52b 3 = .ok (.ishr, 1) := by decide +kernel
theorem dJ2_length_9d52b_4 : decode cJ2_length_9d52b 4 = .ok (.ireturn, 1) := by decide +kernel
theorem dJ2_charAt_3b067_0 : decode cJ2_charAt_3b067 0 = .ok (.iload_n 1, 1) := by decide +kernel
theorem dJ2_charAt_3b067_1 : decode cJ2_charAt_3b067 1 = .ok (.aload_n 0, 1) := by decide +kernel
theorem dJ2_charAt_3b067_2 : decode cJ2_charAt_3b067 2 = .ok (.invokestatic 67, 3) := by decide +kernel
theorem dJ2_charAt_3b067_5 : decode cJ2_charAt_3b067 5 = .ok (.aload_n 0, 1) := by decide +kernel
theorem dJ2_charAt_3b067_6 : decode cJ2_charAt_3b067 6 = .ok (.iload_n 1, 1) := by decide +kernel
theorem dJ2_charAt_3b067_7 : decode cJ2_charAt_3b067 7 = .ok (.invokestatic 71, 3) := by decide +kernel
theorem dJ2_charAt_3b067_10 : decode cJ2_charAt_3b067 10 = .ok (.ireturn, 1) := by decide +kernel
theorem dJ2_checkIndex_2214a_0 : decode cJ2_checkIndex_2214a 0 = .ok (.iload_n 0, 1) := by decide +kernel
theorem dJ2_checkIndex_2214a_1 : decode cJ2_checkIndex_2214a 1 = .ok (.aload_n 1, 1) := by decide +kernel
theorem dJ2_checkIndex_2214a_2 : decode cJ2_checkIndex_2214a 2 = .ok (.invokestatic 48, 3) := by decide +kernel
theorem dJ2_checkIndex_2214a_5 : decode cJ2_checkIndex_2214a 5 = .ok (.invokestatic 414, 3) := by decide +kernel
theorem dJ2_checkIndex_2214a_8 : decode cJ2_checkIndex_2214a 8 = .ok (.return_, 1) := by decide +kernel
theorem dJ3_checkIndex_8e157_0 : decode cJ3_checkIndex_8e157 0 = .ok (.iload_n 0, 1) := by decide +kernel
theorem dJ3_checkIndex_8e157_1 : decode cJ3_checkIndex_8e157 1 = .ok (.ifCond .lt 8, 3) := by decide +kernel
theorem dJ3_checkIndex_8e157_4 : decode cJ3_checkIndex_8e157 4 = .ok (.iload_n 0, 1) := by decide +kernel
theorem dJ3_checkIndex_8e157_5 : decode cJ3_checkIndex_8e157 5 = .ok (.iload_n 1, 1) := by decide +kernel
theorem dJ3_checkIndex_8e157_6 : decode cJ3_checkIndex_8e157 6 = .ok (.if_icmp .lt 10, 3) := by decide +kernel
theorem dJ3_checkIndex_8e157_9 : decode cJ3_checkIndex_8e157 9 = .ok (.aload_n 2, 1) := by decide +kernel
theorem dJ3_checkIndex_8e157_10 : decode cJ3_checkIndex_8e157 10 = .ok (.iload_n 0, 1) := by decide +kernel
theorem dJ3_checkIndex_8e157_11 : decode cJ3_checkIndex_8e157 11 = .ok (.iload_n 1, 1) := by decide +kernel
theorem dJ3_checkIndex_8e157_12 : decode cJ3_checkIndex_8e157 12 = .ok (.invokestatic 95, 3) := by decide +kernel
theorem dJ3_checkIndex_8e157_15 : decode cJ3_checkIndex_8e157 15 = .ok (.athrow, 1) := by decide +kernel
theorem dJ3_checkIndex_8e157_16 : decode cJ3_checkIndex_8e157 16 = .ok (.iload_n 0, 1) := by decide +kernel
theorem dJ3_checkIndex_8e157_17 : decode cJ3_checkIndex_8e157 17 = .ok (.ireturn, 1) := by decide +kernel
abbrev vwCl : List vw_C := [(RX0, TX0, 3), (RX1, TX1, 2), (RX2, TX2, 2), (RX3, TX3, 5), (RX4, TX4, 9), (RX5, TX5, 4), (RX6, TX6, 2), (RX7, TX7, 17), (RX8, TX8, 4), (RX9, TX9, 13), (RX10, TX10, 72)]
