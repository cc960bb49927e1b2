section B32
/-! int numbers that are not negative -/
theorem n32 {a : Int} (h : 0 ≤ a ∧ a < 2147483648) : (Int32.ofInt a).toBitVec.toNat = a.toNat := by
  show (BitVec.ofInt 32 a).toNat = a.toNat
  rw [BitVec.toNat_ofInt]
  have e : (a % ((2 ^ 32 : Nat) : Int)) = a := Int.emod_eq_of_lt h.1 (by omega)
  rw [e]
theorem i32 {x : Int32} (h : x.toBitVec.toNat < 2147483648) : x.toInt = (x.toBitVec.toNat : Int) := by
  show x.toBitVec.toInt = _
  rw [BitVec.toInt_eq_toNat_cond, if_pos (by omega)]
theorem bOr_n {a b : Int} (ha : 0 ≤ a ∧ a < 2147483648) (hb : 0 ≤ b ∧ b < 2147483648) : bOr a b = ((a.toNat ||| b.toNat : Nat) : Int) := by
  have h1 : (Int32.ofInt a ||| Int32.ofInt b).toBitVec.toNat = a.toNat ||| b.toNat := by
    rw [Int32.toBitVec_or, BitVec.toNat_or, n32 ha, n32 hb]
  have h2 : a.toNat ||| b.toNat < 2 ^ 31 := Nat.or_lt_two_pow (by omega) (by omega)
  unfold bOr
  rw [i32 (by rw [h1]; omega), h1]
theorem bAnd_n {a b : Int} (ha : 0 ≤ a ∧ a < 2147483648) (hb : 0 ≤ b ∧ b < 2147483648) : bAnd a b = ((a.toNat &&& b.toNat : Nat) : Int) := by
  have h1 : (Int32.ofInt a &&& Int32.ofInt b).toBitVec.toNat = a.toNat &&& b.toNat := by
    rw [Int32.toBitVec_and, BitVec.toNat_and, n32 ha, n32 hb]
  have h2 : a.toNat &&& b.toNat ≤ a.toNat := Nat.and_le_left
  unfold bAnd
  rw [i32 (by rw [h1]; omega), h1]
theorem sh31 : ∀ p : Fin 31, ((Int32.ofInt (p.val : Int) &&& 31).toBitVec.smod 32).toNat = p.val := by decide +kernel
theorem bShr_n {a b : Int} {n : Nat} (hs : ((Int32.ofInt b &&& 31).toBitVec.smod 32).toNat = n) (ha : 0 ≤ a ∧ a < 2147483648) : bShr a b = ((a.toNat >>> n : Nat) : Int) := by
  have hm : (Int32.ofInt a).toBitVec.msb = false := by
    rw [BitVec.msb_eq_decide, n32 ha]
    exact decide_eq_false (by omega)
  have h1 : (Int32.ofInt a >>> (Int32.ofInt b &&& 31)).toBitVec.toNat = a.toNat >>> n := by
    rw [Int32.toBitVec_shiftRight, BitVec.sshiftRight_eq', hs, BitVec.sshiftRight_eq_of_msb_false hm, BitVec.toNat_ushiftRight, n32 ha]
  have h2 : a.toNat >>> n ≤ a.toNat := Nat.shiftRight_le _ _
  unfold bShr
  rw [i32 (by rw [h1]; omega), h1]
/-- whether a bit is set -/
theorem bit_n {a p : Int} (ha : 0 ≤ a ∧ a < 2147483648) (hp : 0 ≤ p ∧ p < 31) : bAnd (bShr a p) 1 = 0 ↔ a.toNat.testBit p.toNat = false := by
  have hs := sh31 ⟨p.toNat, by omega⟩
  have e : ((p.toNat : Nat) : Int) = p := by omega
  simp only [e] at hs
  have h2 : a.toNat >>> p.toNat ≤ a.toNat := Nat.shiftRight_le _ _
  rw [bShr_n hs ha, Nat.testBit]
  generalize a.toNat >>> p.toNat = N at h2 ⊢
  rw [bAnd_n ⟨Int.natCast_nonneg _, by omega⟩ ⟨by omega, by omega⟩, Int.toNat_natCast, show (1 : Int).toNat = 1 from rfl, Nat.and_comm N 1]
  constructor
  · intro z
    have : 1 &&& N = 0 := by omega
    rw [this]
    rfl
  · intro z
    have : 1 &&& N = 0 := by simpa using z
    rw [this]
    rfl
theorem bit_set {a j p : Int} (ha : 0 ≤ a ∧ a < 1073741824) (hj : 0 ≤ j ∧ j < 30) (hp : 0 ≤ p ∧ p < 30) : (0 ≤ bOr a (bShl 1 j) ∧ bOr a (bShl 1 j) < 1073741824) ∧ ((bOr a (bShl 1 j)).toNat.testBit p.toNat = true ↔ a.toNat.testBit p.toNat = true ∨ j = p) := by
  have e2 : (2 : Int) ^ j.toNat = ((2 ^ j.toNat : Nat) : Int) := by push_cast; rfl
  have hlt : 2 ^ j.toNat < 2 ^ 30 := Nat.pow_lt_pow_right (by decide) (by omega)
  have h30 : (2 : Nat) ^ 30 = 1073741824 := by decide
  have htb : ∀ i, (2 ^ j.toNat).testBit i = decide (j.toNat = i) := fun i => Nat.testBit_two_pow
  rw [bShl_1 hj.1 (by omega), e2]
  generalize 2 ^ j.toNat = P at hlt htb ⊢
  rw [h30] at hlt
  rw [bOr_n ⟨ha.1, by omega⟩ ⟨Int.natCast_nonneg _, by omega⟩, Int.toNat_natCast, Int.toNat_natCast]
  have h2 : a.toNat ||| P < 2 ^ 30 := Nat.or_lt_two_pow (by omega) (by omega)
  rw [h30] at h2
  refine ⟨⟨by omega, by omega⟩, ?_⟩
  rw [Nat.testBit_or, Bool.or_eq_true, htb, decide_eq_true_eq]
  constructor
  · rintro (z | z)
    · exact Or.inl z
    · exact Or.inr (by omega)
  · rintro (z | z)
    · exact Or.inl z
    · exact Or.inr (by omega)
end B32
