section LNG
/-! long numbers that are not negative -/
theorem n64 {a : Int} (h : 0 ≤ a ∧ a < 9223372036854775808) : (Int64.ofInt a).toBitVec.toNat = a.toNat := by
  show (BitVec.ofInt 64 a).toNat = a.toNat
  rw [BitVec.toNat_ofInt]
  have e : (a % ((2 ^ 64 : Nat) : Int)) = a := Int.emod_eq_of_lt h.1 (by omega)
  rw [e]
theorem i64 {x : Int64} (h : x.toBitVec.toNat < 9223372036854775808) : x.toInt = (x.toBitVec.toNat : Int) := by
  show x.toBitVec.toInt = _
  rw [BitVec.toInt_eq_toNat_cond, if_pos (by omega)]
theorem lOr_n {a b : Int} (ha : 0 ≤ a ∧ a < 9223372036854775808) (hb : 0 ≤ b ∧ b < 9223372036854775808) : lOr a b = ((a.toNat ||| b.toNat : Nat) : Int) := by
  have h1 : (Int64.ofInt a ||| Int64.ofInt b).toBitVec.toNat = a.toNat ||| b.toNat := by
    rw [Int64.toBitVec_or, BitVec.toNat_or, n64 ha, n64 hb]
  have h2 : a.toNat ||| b.toNat < 2 ^ 63 := Nat.or_lt_two_pow (by omega) (by omega)
  unfold lOr
  rw [i64 (by rw [h1]; omega), h1]
theorem lAnd_n {a b : Int} (ha : 0 ≤ a ∧ a < 9223372036854775808) (hb : 0 ≤ b ∧ b < 9223372036854775808) : lAnd a b = ((a.toNat &&& b.toNat : Nat) : Int) := by
  have h1 : (Int64.ofInt a &&& Int64.ofInt b).toBitVec.toNat = a.toNat &&& b.toNat := by
    rw [Int64.toBitVec_and, BitVec.toNat_and, n64 ha, n64 hb]
  have h2 : a.toNat &&& b.toNat ≤ a.toNat := Nat.and_le_left
  unfold lAnd
  rw [i64 (by rw [h1]; omega), h1]
theorem lShl_n {a b : Int} {n : Nat} (hs : (((Int32.ofInt b).toInt64 &&& 63).toBitVec.smod 64).toNat = n) (ha : 0 ≤ a) (hlt : a * 2 ^ n < 9223372036854775808) : lShl a b = a * 2 ^ n := by
  have hp : (1 : Int) ≤ 2 ^ n := by
    have : (1 : Nat) ≤ 2 ^ n := Nat.one_le_two_pow
    have e : ((2 ^ n : Nat) : Int) = 2 ^ n := by push_cast; rfl
    rw [← e]
    omega
  have ha2 : a ≤ a * 2 ^ n := by
    have := Int.mul_le_mul_of_nonneg_left hp ha
    rw [Int.mul_one] at this
    exact this
  have e2 : ((a.toNat * 2 ^ n : Nat) : Int) = a * 2 ^ n := by
    rw [Int.natCast_mul, Int.toNat_of_nonneg ha]
    push_cast
    rfl
  have h1 : (Int64.ofInt a <<< ((Int32.ofInt b).toInt64 &&& 63)).toBitVec.toNat = a.toNat * 2 ^ n := by
    rw [Int64.toBitVec_shiftLeft, BitVec.shiftLeft_eq', hs, BitVec.toNat_shiftLeft, n64 ⟨ha, by omega⟩, Nat.shiftLeft_eq]
    refine Nat.mod_eq_of_lt ?_
    omega
  unfold lShl
  rw [i64 (by rw [h1]; omega), h1, e2]
/-- a number above, a number below -/
theorem lOr_add {a b : Int} {n : Nat} (ha : 0 ≤ a) (hb : 0 ≤ b ∧ b < 2 ^ n) (hlt : a * 2 ^ n + b < 9223372036854775808) : lOr (a * 2 ^ n) b = a * 2 ^ n + b := by
  have e2 : ((a.toNat * 2 ^ n : Nat) : Int) = a * 2 ^ n := by
    rw [Int.natCast_mul, Int.toNat_of_nonneg ha]
    push_cast
    rfl
  have h0 : 0 ≤ a * 2 ^ n := by rw [← e2]; omega
  rw [lOr_n ⟨h0, by omega⟩ ⟨hb.1, by omega⟩]
  have e3 : (a * 2 ^ n).toNat = a.toNat <<< n := by
    rw [← e2, Nat.shiftLeft_eq]
    omega
  have hbn : b.toNat < 2 ^ n := by
    have e4 : ((2 ^ n : Nat) : Int) = 2 ^ n := by push_cast; rfl
    rw [← e4] at hb
    omega
  rw [e3, ← Nat.shiftLeft_add_eq_or_of_lt hbn, Nat.shiftLeft_eq, Int.natCast_add, e2]
  omega
theorem sh32 : (((Int32.ofInt 32).toInt64 &&& 63).toBitVec.smod 64).toNat = 32 := by decide
theorem sh48 : (((Int32.ofInt 48).toInt64 &&& 63).toBitVec.smod 64).toNat = 48 := by decide
/-- the rank of a half -/
theorem rank_n {a b : Int} (ha : 0 ≤ a ∧ a < 1000000) (hb : 0 ≤ b ∧ b < 4294967296) : lOr (lShl a 32) b = a * 4294967296 + b := by
  rw [lShl_n sh32 ha.1 (by omega)]
  exact lOr_add (n := 32) ha.1 hb (by omega)
theorem lUshr_n {a b : Int} {n : Nat} (hs : (((Int32.ofInt b).toInt64.toUInt64 &&& Int64.toUInt64 63)).toNat % 64 = n) (ha : 0 ≤ a ∧ a < 9223372036854775808) : lUshr a b = a / 2 ^ n := by
  have h0 : (Int64.ofInt a).toUInt64.toNat = a.toNat := n64 ha
  have h1 : ((Int64.ofInt a).toUInt64 >>> ((Int32.ofInt b).toInt64.toUInt64 &&& Int64.toUInt64 63)).toNat = a.toNat / 2 ^ n := by
    rw [UInt64.toNat_shiftRight, hs, h0, Nat.shiftRight_eq_div_pow]
  have h2 : a.toNat / 2 ^ n ≤ a.toNat := Nat.div_le_self _ _
  have h3 : ((Int64.ofInt a).toUInt64 >>> ((Int32.ofInt b).toInt64.toUInt64 &&& Int64.toUInt64 63)).toInt64.toBitVec.toNat = a.toNat / 2 ^ n := h1
  unfold lUshr
  rw [i64 (by rw [h3]; omega), h3, Int.natCast_ediv, Int.toNat_of_nonneg ha.1]
  push_cast
  rfl
theorem lAnd_255 {a : Int} (ha : 0 ≤ a ∧ a < 9223372036854775808) : lAnd a 255 = a % 256 := by
  rw [lAnd_n ha (by omega)]
  have : a.toNat &&& 255 = a.toNat % 2 ^ 8 := Nat.and_two_pow_sub_one_eq_mod _ 8
  have e : (255 : Int).toNat = 255 := rfl
  rw [e, this]
  omega
theorem us48 : (((Int32.ofInt 48).toInt64.toUInt64 &&& Int64.toUInt64 63)).toNat % 64 = 48 := by decide
/-- the cost of a key -/
theorem cost_n {a : Int} (ha : 0 ≤ a ∧ a < 9223372036854775808) : lUshr a 48 = a / 281474976710656 := lUshr_n us48 ha
/-- the n-th step of a key -/
theorem step_n {a n : Int} (ha : 0 ≤ a ∧ a < 9223372036854775808) (hn : 0 ≤ n ∧ n < 6) : lAnd (lUshr a (8 * (5 - n))) 255 = a / 256 ^ (5 - n).toNat % 256 := by
  have key : ∀ (b : Int) (q : Nat), (((Int32.ofInt b).toInt64.toUInt64 &&& Int64.toUInt64 63)).toNat % 64 = q → lAnd (lUshr a b) 255 = a / 2 ^ q % 256 := fun b q h => by
    rw [lUshr_n h ha]
    have e : ((2 ^ q : Nat) : Int) = 2 ^ q := by push_cast; rfl
    have h1 : (1 : Nat) ≤ 2 ^ q := Nat.one_le_two_pow
    have h2 : 0 ≤ a / 2 ^ q := Int.ediv_nonneg ha.1 (by rw [← e]; omega)
    have h3 : a / 2 ^ q ≤ a := Int.ediv_le_self _ ha.1
    exact lAnd_255 ⟨h2, by omega⟩
  have hc : n = 0 ∨ n = 1 ∨ n = 2 ∨ n = 3 ∨ n = 4 ∨ n = 5 := by omega
  rcases hc with rfl | rfl | rfl | rfl | rfl | rfl
  · exact key _ 40 (by decide)
  · exact key _ 32 (by decide)
  · exact key _ 24 (by decide)
  · exact key _ 16 (by decide)
  · exact key _ 8 (by decide)
  · exact key _ 0 (by decide)
end LNG
