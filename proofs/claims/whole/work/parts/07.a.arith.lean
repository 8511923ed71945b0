/-! ===== numbers of the machine, as whole numbers ===== -/
theorem w32_lo (x : Int) : -2147483648 ≤ w32 x := by unfold w32; have := Int.le_bmod (x := x) (m := 4294967296) (by decide); omega
theorem w32_hi (x : Int) : w32 x < 2147483648 := by unfold w32; have := Int.bmod_lt (x := x) (m := 4294967296) (by decide); omega
theorem w64_lo (x : Int) : -9223372036854775808 ≤ w64 x := by unfold w64; have := Int.le_bmod (x := x) (m := 18446744073709551616) (by decide); omega
theorem w64_hi (x : Int) : w64 x < 9223372036854775808 := by unfold w64; have := Int.bmod_lt (x := x) (m := 18446744073709551616) (by decide); omega
theorem w32_id {x : Int} (h1 : -2147483648 ≤ x) (h2 : x < 2147483648) : w32 x = x := Int.bmod_eq_of_le (by omega) (by omega)
theorem w64_id {x : Int} (h1 : -9223372036854775808 ≤ x) (h2 : x < 9223372036854775808) : w64 x = x := Int.bmod_eq_of_le (by omega) (by omega)
theorem w32_w32 (x : Int) : w32 (w32 x) = w32 x := w32_id (w32_lo x) (w32_hi x)
theorem w64_w64 (x : Int) : w64 (w64 x) = w64 x := w64_id (w64_lo x) (w64_hi x)
theorem w64_w32 {x : Int} (h : w32 x = x) : w64 x = x := w64_id (by have := w32_lo x; omega) (by have := w32_hi x; omega)
theorem o32_toInt {x : Int} (h : w32 x = x) : (Int32.ofInt x).toInt = x := by
  rw [Int32.toInt_ofInt]; exact h
theorem o64_toInt {x : Int} (h : w64 x = x) : (Int64.ofInt x).toInt = x := by
  rw [Int64.toInt_ofInt]; exact h
theorem o32_w32 (x : Int) : Int32.ofInt (w32 x) = Int32.ofInt x := by
  apply Int32.toInt_inj.mp
  rw [Int32.toInt_ofInt, Int32.toInt_ofInt]
  exact w32_w32 x
theorem o64_w64 (x : Int) : Int64.ofInt (w64 x) = Int64.ofInt x := by
  apply Int64.toInt_inj.mp
  rw [Int64.toInt_ofInt, Int64.toInt_ofInt]
  exact w64_w64 x
theorem t32_w32 (x : Int32) : w32 x.toInt = x.toInt := by
  have h1 := Int32.le_toInt x
  have h2 := Int32.toInt_lt x
  exact w32_id (by omega) (by omega)
theorem t64_w64 (x : Int64) : w64 x.toInt = x.toInt := by
  have h1 := Int64.le_toInt x
  have h2 := Int64.toInt_lt x
  exact w64_id (by omega) (by omega)
theorem o32_t (x : Int32) : Int32.ofInt x.toInt = x := Int32.toInt_inj.mp (o32_toInt (t32_w32 x))
theorem o64_t (x : Int64) : Int64.ofInt x.toInt = x := Int64.toInt_inj.mp (o64_toInt (t64_w64 x))
theorem o32_add (a b : Int) : Int32.ofInt a + Int32.ofInt b = Int32.ofInt (w32 (a + b)) := by rw [o32_w32, Int32.ofInt_add]
theorem o32_sub (a b : Int) : Int32.ofInt a - Int32.ofInt b = Int32.ofInt (w32 (a - b)) := by rw [o32_w32, Int32.ofInt_sub]
theorem o32_mul (a b : Int) : Int32.ofInt a * Int32.ofInt b = Int32.ofInt (w32 (a * b)) := by rw [o32_w32, Int32.ofInt_mul]
theorem o64_add (a b : Int) : Int64.ofInt a + Int64.ofInt b = Int64.ofInt (w64 (a + b)) := by rw [o64_w64, Int64.ofInt_add]
theorem o64_sub (a b : Int) : Int64.ofInt a - Int64.ofInt b = Int64.ofInt (w64 (a - b)) := by rw [o64_w64, Int64.ofInt_sub]
theorem o64_mul (a b : Int) : Int64.ofInt a * Int64.ofInt b = Int64.ofInt (w64 (a * b)) := by rw [o64_w64, Int64.ofInt_mul]
theorem o32_lt {a b : Int} (ha : w32 a = a) (hb : w32 b = b) : Int32.ofInt a < Int32.ofInt b ↔ a < b := by rw [Int32.lt_iff_toInt_lt, o32_toInt ha, o32_toInt hb]
theorem o32_le {a b : Int} (ha : w32 a = a) (hb : w32 b = b) : Int32.ofInt a ≤ Int32.ofInt b ↔ a ≤ b := by rw [Int32.le_iff_toInt_le, o32_toInt ha, o32_toInt hb]
theorem o32_eq {a b : Int} (ha : w32 a = a) (hb : w32 b = b) : Int32.ofInt a = Int32.ofInt b ↔ a = b := by rw [← Int32.toInt_inj, o32_toInt ha, o32_toInt hb]
theorem o64_lt {a b : Int} (ha : w64 a = a) (hb : w64 b = b) : Int64.ofInt a < Int64.ofInt b ↔ a < b := by rw [Int64.lt_iff_toInt_lt, o64_toInt ha, o64_toInt hb]
theorem o64_eq {a b : Int} (ha : w64 a = a) (hb : w64 b = b) : Int64.ofInt a = Int64.ofInt b ↔ a = b := by rw [← Int64.toInt_inj, o64_toInt ha, o64_toInt hb]
theorem o32_0 : Int32.ofInt 0 = 0 := rfl
theorem w32_0 : w32 0 = 0 := w32_id (by decide) (by decide)
theorem o32_cl {a : Int} (ha : w32 a = a) : (Int32.ofInt a).toNatClampNeg = a.toNat := by
  show (Int32.ofInt a).toInt.toNat = _
  rw [o32_toInt ha]
theorem o32_in {i : Int} {n : Nat} (hi : w32 i = i) (h : 0 ≤ i ∧ i < n) : vp_in (Int32.ofInt i) n := by
  rw [vp_in_iff, o32_toInt hi]; exact h
theorem o32_i2l {a : Int} (ha : w32 a = a) : (Int32.ofInt a).toInt64 = Int64.ofInt a := by
  apply Int64.toInt_inj.mp
  rw [o64_toInt (w64_w32 ha), Int32.toInt_toInt64, o32_toInt ha]
theorem o64_cmp {a b : Int} (ha : w64 a = a) (hb : w64 b = b) : lg_cmp (Int64.ofInt a) (Int64.ofInt b) = Int32.ofInt (if a < b then -1 else if a = b then 0 else 1) := by
  unfold lg_cmp
  simp only [gt_iff_lt, o64_lt hb ha, o64_eq ha hb]
  by_cases h1 : a < b
  · rw [if_neg (by omega), if_neg (by omega), if_pos h1]; rfl
  · by_cases h2 : a = b
    · rw [if_neg (by omega), if_pos h2, if_neg h1, if_pos h2]; rfl
    · rw [if_pos (by omega), if_neg h1, if_neg h2]; rfl
