/-! Bits, quotients and remainders of small numbers. -/
theorem ar_n (n : Nat) : Int32.ofInt (n : Int) = nI n := gi_len n ▸ rfl
theorem ar_toInt {n : Nat} (h : n < 2147483648) : (nI n).toInt = (n : Int) := Int32.toInt_ofNat_of_lt (by omega)
theorem ar_sh : ∀ d, d < 32 → ((nI d &&& 31).toBitVec.smod 32).toNat = d := by decide +kernel
theorem gShr_nat {n d : Nat} (hn : n < 2147483648) (hd : d < 32) : gShr (n : Int) (d : Int) = ((n / 2 ^ d : Nat) : Int) := by
  unfold gShr
  rw [ar_n, ar_n, pk_shrN (by omega) _ d (ar_sh d hd)]
  exact ar_toInt (Nat.lt_of_le_of_lt (Nat.div_le_self _ _) hn)
theorem gShl_nat {n d : Nat} (hn : n * 2 ^ d < 2147483648) (hd : d < 32) : gShl (n : Int) (d : Int) = ((n * 2 ^ d : Nat) : Int) := by
  unfold gShl
  rw [ar_n, ar_n, pk_shlN _ d (ar_sh d hd) (by omega)]
  exact ar_toInt hn
theorem ar_and (a b : Nat) : nI a &&& nI b = nI (a &&& b) := by
  apply Int32.toBitVec_inj.1
  show BitVec.ofNat 32 a &&& BitVec.ofNat 32 b = BitVec.ofNat 32 (a &&& b)
  apply BitVec.eq_of_getLsbD_eq
  intro i hi
  simp [hi]
theorem gAnd1_nat {n : Nat} (hn : n < 2147483648) : gAnd (n : Int) 1 = ((n % 2 : Nat) : Int) := by
  unfold gAnd
  rw [ar_n, show (1 : Int) = ((1 : Nat) : Int) from rfl, ar_n, ar_and, show n &&& 1 = n % 2 from Nat.and_one_is_mod n]
  exact ar_toInt (by omega)
theorem gAnd_bit (a b : Bool) : gAnd (b2i a) (b2i b) = b2i (a && b) := by cases a <;> cases b <;> decide
theorem gAnd63 (x : Int) : 0 ≤ gAnd x 63 ∧ gAnd x 63 ≤ 63 := by
  unfold gAnd
  have hb : ((Int32.ofInt x &&& Int32.ofInt 63).toBitVec).toNat ≤ 63 := by
    show ((Int32.ofInt x).toBitVec &&& (Int32.ofInt 63).toBitVec).toNat ≤ 63
    rw [BitVec.toNat_and]
    exact Nat.le_trans Nat.and_le_right (by decide)
  have e : (Int32.ofInt x &&& Int32.ofInt 63).toInt = (((Int32.ofInt x &&& Int32.ofInt 63).toBitVec).toNat : Int) := BitVec.toInt_eq_toNat_of_lt (by omega)
  rw [e]
  omega
theorem gDiv_nat {a b : Nat} (ha : a < 2147483648) (hb : b < 2147483648) : gDiv (a : Int) (b : Int) = ((a / b : Nat) : Int) := by
  unfold gDiv
  rw [ar_n, ar_n]
  show (Int32.ofNat a / Int32.ofNat b).toInt = _
  rw [← Int32.ofNat_div (by omega) (by omega)]
  exact ar_toInt (Nat.lt_of_le_of_lt (Nat.div_le_self _ _) ha)
theorem gRem_nat {a b : Nat} (ha : a < 2147483648) (hb : b < 2147483648) : gRem (a : Int) (b : Int) = ((a % b : Nat) : Int) := by
  unfold gRem
  rw [ar_n, ar_n]
  show (Int32.ofNat a - Int32.ofNat a / Int32.ofNat b * Int32.ofNat b).toInt = _
  have h1 : a / b * b ≤ a := Nat.div_mul_le_self a b
  rw [← Int32.ofNat_div (by omega) (by omega), ← Int32.ofNat_mul, ← Int32.ofNat_sub _ _ h1]
  have h2 : a - a / b * b = a % b := by
    have := Nat.div_add_mod a b
    rw [Nat.mul_comm] at this
    omega
  rw [h2]
  exact ar_toInt (Nat.lt_of_le_of_lt (Nat.mod_le _ _) ha)
