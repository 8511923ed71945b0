/-! ===== division, bits: the machine's and the plain ones ===== -/
theorem i32_of {a : Int} (h1 : -2147483648 ≤ a) (h2 : a < 2147483648) : (Int32.ofInt a).toInt = a := by
  rw [Int32.toInt_ofInt]; exact w32_id h1 h2
theorem i64_of {a : Int} (h1 : -9223372036854775808 ≤ a) (h2 : a < 9223372036854775808) : (Int64.ofInt a).toInt = a := by
  rw [Int64.toInt_ofInt]; exact Int.bmod_eq_of_le (by show -(((18446744073709551616 : Nat) : Int) / 2) ≤ a; omega) (by show a < (((18446744073709551616 : Nat) : Int) + 1) / 2; omega)
theorem tdiv_in (a b : Int) : (a.tdiv b).natAbs ≤ a.natAbs := by
  rw [Int.natAbs_tdiv]; exact Nat.div_le_self _ _
theorem iDiv_t {a b : Int} (h1 : -2147483648 < a) (h2 : a < 2147483648) (h3 : -2147483648 ≤ b) (h4 : b < 2147483648) : iDiv a b = a.tdiv b := by
  unfold iDiv
  rw [Int32.toInt_div, i32_of (by omega) h2, i32_of h3 h4]
  have := tdiv_in a b
  exact w32_id (by omega) (by omega)
theorem lDiv_t {a b : Int} (h1 : -9223372036854775808 < a) (h2 : a < 9223372036854775808) (h3 : -9223372036854775808 ≤ b) (h4 : b < 9223372036854775808) : lDiv a b = a.tdiv b := by
  unfold lDiv
  rw [Int64.toInt_div, i64_of (by omega) h2, i64_of h3 h4]
  have := tdiv_in a b
  exact w64_id (by omega) (by omega)
theorem iRem_t {a b : Int} (h1 : -2147483648 < a) (h2 : a < 2147483648) (h3 : -2147483648 ≤ b) (h4 : b < 2147483648) (h5 : (a.tmod b).natAbs ≤ a.natAbs) : iRem a b = a.tmod b := by
  unfold iRem
  have e : (Int32.ofInt a / Int32.ofInt b).toInt = a.tdiv b := iDiv_t h1 h2 h3 h4
  rw [Int32.toInt_sub, Int32.toInt_mul, e, i32_of (by omega) h2, i32_of h3 h4, Int.sub_bmod_bmod, Int.mul_comm, ← Int.tmod_def]
  exact w32_id (by omega) (by omega)
theorem lRem_t {a b : Int} (h1 : -9223372036854775808 < a) (h2 : a < 9223372036854775808) (h3 : -9223372036854775808 ≤ b) (h4 : b < 9223372036854775808) (h5 : (a.tmod b).natAbs ≤ a.natAbs) : lRem a b = a.tmod b := by
  unfold lRem
  have e : (Int64.ofInt a / Int64.ofInt b).toInt = a.tdiv b := lDiv_t h1 h2 h3 h4
  rw [Int64.toInt_sub, Int64.toInt_mul, e, i64_of (by omega) h2, i64_of h3 h4, Int.sub_bmod_bmod, Int.mul_comm, ← Int.tmod_def]
  exact w64_id (by omega) (by omega)
theorem tmod_in (a b : Int) : (a.tmod b).natAbs ≤ a.natAbs := by
  rw [Int.natAbs_tmod]; exact Nat.mod_le _ _
theorem iDiv_p {a b : Int} (h1 : 0 ≤ a) (h2 : a < 2147483648) (h3 : -2147483648 ≤ b) (h4 : b < 2147483648) : iDiv a b = a / b := by
  rw [iDiv_t (by omega) h2 h3 h4, Int.tdiv_eq_ediv_of_nonneg h1]
theorem iRem_p {a b : Int} (h1 : 0 ≤ a) (h2 : a < 2147483648) (h3 : -2147483648 ≤ b) (h4 : b < 2147483648) : iRem a b = a % b := by
  rw [iRem_t (by omega) h2 h3 h4 (tmod_in a b), Int.tmod_eq_emod_of_nonneg h1]
theorem lDiv_p {a b : Int} (h1 : 0 ≤ a) (h2 : a < 9223372036854775808) (h3 : -9223372036854775808 ≤ b) (h4 : b < 9223372036854775808) : lDiv a b = a / b := by
  rw [lDiv_t (by omega) h2 h3 h4, Int.tdiv_eq_ediv_of_nonneg h1]
theorem lRem_p {a b : Int} (h1 : 0 ≤ a) (h2 : a < 9223372036854775808) (h3 : -9223372036854775808 ≤ b) (h4 : b < 9223372036854775808) : lRem a b = a % b := by
  rw [lRem_t (by omega) h2 h3 h4 (tmod_in a b), Int.tmod_eq_emod_of_nonneg h1]
theorem l2i_id {a : Int} (h1 : -2147483648 ≤ a) (h2 : a < 2147483648) : l2i a = a := by
  unfold l2i
  rw [Int64.toInt_toInt32, i64_of (by omega) (by omega)]
  exact w32_id h1 h2
/-! bits of numbers 0 and above -/
theorem bv_nat {a : Int} (h1 : 0 ≤ a) (h2 : a < 2147483648) : (Int32.ofInt a).toBitVec.toNat = a.toNat := by
  rw [Int32.toBitVec_ofInt, BitVec.toNat_ofInt]
  omega
theorem bv_int {x : Int32} {n : Nat} (h : x.toBitVec.toNat = n) (hn : n < 2147483648) : x.toInt = n := by
  show x.toBitVec.toInt = n
  rw [BitVec.toInt_eq_toNat_of_lt (by omega), h]
theorem nat_and_lt {a b : Nat} (h : a < 2147483648) : a &&& b < 2147483648 := Nat.lt_of_le_of_lt Nat.and_le_left h
theorem nat_or_lt {a b : Nat} (h : a < 2147483648) (h2 : b < 2147483648) : a ||| b < 2147483648 := Nat.or_lt_two_pow (n := 31) h h2
theorem nat_xor_lt {a b : Nat} (h : a < 2147483648) (h2 : b < 2147483648) : a ^^^ b < 2147483648 := Nat.xor_lt_two_pow (n := 31) h h2
theorem iAnd_n {a b : Int} (h1 : 0 ≤ a) (h2 : a < 2147483648) (h3 : 0 ≤ b) (h4 : b < 2147483648) : iAnd a b = ((a.toNat &&& b.toNat : Nat) : Int) := by
  refine bv_int ?_ (nat_and_lt (by omega))
  rw [Int32.toBitVec_and, BitVec.toNat_and, bv_nat h1 h2, bv_nat h3 h4]
theorem iOr_n {a b : Int} (h1 : 0 ≤ a) (h2 : a < 2147483648) (h3 : 0 ≤ b) (h4 : b < 2147483648) : iOr a b = ((a.toNat ||| b.toNat : Nat) : Int) := by
  refine bv_int ?_ (nat_or_lt (by omega) (by omega))
  rw [Int32.toBitVec_or, BitVec.toNat_or, bv_nat h1 h2, bv_nat h3 h4]
theorem iXor_n {a b : Int} (h1 : 0 ≤ a) (h2 : a < 2147483648) (h3 : 0 ≤ b) (h4 : b < 2147483648) : iXor a b = ((a.toNat ^^^ b.toNat : Nat) : Int) := by
  refine bv_int ?_ (nat_xor_lt (by omega) (by omega))
  rw [Int32.toBitVec_xor, BitVec.toNat_xor, bv_nat h1 h2, bv_nat h3 h4]
theorem iShl_1 {m : Int} (h1 : 0 ≤ m) (h2 : m < 31) : iShl 1 m = ((2 ^ m.toNat : Nat) : Int) := by
  have H : ∀ j : Fin 31, iShl 1 ((j.1 : Nat) : Int) = ((2 ^ j.1 : Nat) : Int) := by decide +kernel
  have := H ⟨m.toNat, by omega⟩
  rwa [show ((m.toNat : Nat) : Int) = m by omega] at this
theorem shamt : ∀ j : Fin 31, ((Int32.ofInt ((j.1 : Nat) : Int) &&& 31).toBitVec.smod 32).toNat = j.1 := by decide +kernel
theorem iShr_n {a m : Int} (h1 : 0 ≤ a) (h2 : a < 2147483648) (h3 : 0 ≤ m) (h4 : m < 31) : iShr a m = ((a.toNat >>> m.toNat : Nat) : Int) := by
  have hm := shamt ⟨m.toNat, by omega⟩
  rw [show (((⟨m.toNat, by omega⟩ : Fin 31).1 : Nat) : Int) = m from by show ((m.toNat : Nat) : Int) = m; omega] at hm
  have hm' : ((Int32.ofInt m &&& 31).toBitVec.smod 32).toNat = m.toNat := hm
  refine bv_int ?_ ?_
  · rw [Int32.toBitVec_shiftRight]
    show ((Int32.ofInt a).toBitVec.sshiftRight ((Int32.ofInt m &&& 31).toBitVec.smod 32).toNat).toNat = _
    rw [hm', BitVec.sshiftRight_eq_of_msb_false, BitVec.toNat_ushiftRight, bv_nat h1 h2]
    rw [BitVec.msb_eq_false_iff_two_mul_lt, bv_nat h1 h2]
    omega
  · rw [Nat.shiftRight_eq_div_pow]
    exact Nat.lt_of_le_of_lt (Nat.div_le_self _ _) (by omega)
/-- a bit of a set -/
def bI (s m : Int) : Bool := s.toNat.testBit m.toNat
theorem bit_iff {s m : Int} (h1 : 0 ≤ s) (h2 : s < 2147483648) (h3 : 0 ≤ m) (h4 : m < 31) : iAnd (iShr s m) 1 = if bI s m then 1 else 0 := by
  rw [iShr_n h1 h2 h3 h4]
  have hlt : s.toNat >>> m.toNat < 2147483648 := by
    rw [Nat.shiftRight_eq_div_pow]
    exact Nat.lt_of_le_of_lt (Nat.div_le_self _ _) (by omega)
  rw [iAnd_n (Int.natCast_nonneg _) (Int.ofNat_lt.mpr hlt) (by decide) (by decide)]
  unfold bI Nat.testBit
  rw [show ((s.toNat >>> m.toNat : Nat) : Int).toNat = s.toNat >>> m.toNat from rfl, show (1 : Int).toNat = 1 from rfl, Nat.and_comm 1, Nat.and_one_is_mod]
  have := Nat.mod_two_eq_zero_or_one (s.toNat >>> m.toNat)
  rcases this with h | h
  · rw [h]; decide
  · rw [h]; decide
