/-! PURE NUMBERS: the machine's operations in plain numbers -/
theorem ft_add_eq {x y : Int} (h : ft_in (x + y)) : ft_add x y = x + y := by
  unfold ft_add
  rw [← Int32.ofInt_add]
  exact ft_toI h
theorem ft_sub_eq {x y : Int} (h : ft_in (x - y)) : ft_sub x y = x - y := by
  show (Int32.ofInt x - Int32.ofInt y).toInt = _
  rw [← Int32.ofInt_sub]
  exact ft_toI h
theorem ft_mul_eq {x y : Int} (h : ft_in (x * y)) : ft_mul x y = x * y := by
  show (Int32.ofInt x * Int32.ofInt y).toInt = _
  rw [← Int32.ofInt_mul]
  exact ft_toI h
theorem ft_addL_eq {x y : Int} (h : ft_inL (x + y)) : ft_addL x y = x + y := by
  show (Int64.ofInt x + Int64.ofInt y).toInt = _
  rw [← Int64.ofInt_add]
  exact ft_toL h
theorem ft_subL_eq {x y : Int} (h : ft_inL (x - y)) : ft_subL x y = x - y := by
  show (Int64.ofInt x - Int64.ofInt y).toInt = _
  rw [← Int64.ofInt_sub]
  exact ft_toL h
theorem ft_nat32 {x : Int} (h0 : 0 ≤ x) (h1 : x < 2147483648) : Int32.ofInt x = nI x.toNat := by
  rw [← Int32.toInt_inj, ft_toI ⟨by omega, h1⟩, nI_toInt (by omega)]
  omega
theorem ft_div_eq {x y : Int} (h0 : 0 ≤ x) (h1 : x < 2147483648) (h2 : 0 < y) (h3 : y < 2147483648) : ft_div x y = x / y := by
  show (Int32.ofInt x / Int32.ofInt y).toInt = _
  rw [ft_nat32 h0 h1, ft_nat32 (by omega) h3, pk_div (by omega) (by omega) (by omega), nI_toInt (by have := Nat.div_le_self x.toNat y.toNat; omega)]
  obtain ⟨a, rfl⟩ := Int.eq_ofNat_of_zero_le h0
  obtain ⟨b, rfl⟩ := Int.eq_ofNat_of_zero_le (by omega : 0 ≤ y)
  simp
theorem ft_rem_eq {x y : Int} (h0 : 0 ≤ x) (h1 : x < 2147483648) (h2 : 0 < y) (h3 : y < 2147483648) : ft_rem x y = x % y := by
  show (Int32.ofInt x - Int32.ofInt x / Int32.ofInt y * Int32.ofInt y).toInt = _
  have hm := Nat.mod_lt x.toNat (by omega : 0 < y.toNat)
  rw [ft_nat32 h0 h1, ft_nat32 (by omega) h3, pk_rem (by omega) (by omega) (by omega), nI_toInt (by omega)]
  obtain ⟨a, rfl⟩ := Int.eq_ofNat_of_zero_le h0
  obtain ⟨b, rfl⟩ := Int.eq_ofNat_of_zero_le (by omega : 0 ≤ y)
  simp
/-! bits of longs -/
theorem ft_bvL (x : Int) : (Int64.ofInt x).toBitVec = BitVec.ofInt 64 x := rfl
theorem ft_bvI (x : Int) : (Int32.ofInt x).toBitVec = BitVec.ofInt 32 x := rfl
theorem ft_andL_nat {x y : Int} (hx : 0 ≤ x) (hx1 : ft_inL x) (hy : 0 ≤ y) (hy1 : ft_inL y) : ft_andL x y = ((x.toNat &&& y.toNat : Nat) : Int) := by
  show (Int64.ofInt x &&& Int64.ofInt y).toBitVec.toInt = _
  rw [Int64.toBitVec_and, ft_bvL, ft_bvL]
  have hx2 := hx1.2
  have hy2 := hy1.2
  have e1 : (BitVec.ofInt 64 x).toNat = x.toNat := by rw [BitVec.toNat_ofInt]; congr 1; omega
  have e2 : (BitVec.ofInt 64 y).toNat = y.toNat := by rw [BitVec.toNat_ofInt]; congr 1; omega
  have hle : x.toNat &&& y.toNat ≤ x.toNat := Nat.and_le_left
  rw [BitVec.toInt_eq_toNat_of_lt (by rw [BitVec.toNat_and, e1, e2]; omega), BitVec.toNat_and, e1, e2]
theorem ft_andL_mask {x : Int} (k : Nat) (hk : k ≤ 62) (hx : 0 ≤ x) (hx1 : ft_inL x) : ft_andL x (2 ^ k - 1) = x % 2 ^ k := by
  have h1 : (2 : Int) ^ k ≤ 2 ^ 62 := by
    have := Nat.pow_le_pow_right (n := 2) (by omega) hk
    exact_mod_cast this
  have h0 : (0 : Int) < 2 ^ k := by
    have := Nat.two_pow_pos k
    exact_mod_cast this
  rw [ft_andL_nat hx hx1 (by omega) ⟨by omega, by omega⟩]
  have e : ((2 : Int) ^ k - 1).toNat = 2 ^ k - 1 := by
    have : ((2 ^ k : Nat) : Int) = (2 : Int) ^ k := by push_cast; rfl
    omega
  rw [e, Nat.and_two_pow_sub_one_eq_mod]
  obtain ⟨a, rfl⟩ := Int.eq_ofNat_of_zero_le hx
  simp
theorem ft_and32 (x : Int) : ft_andL x 4294967295 = x % 4294967296 := by
  show (Int64.ofInt x &&& Int64.ofInt 4294967295).toBitVec.toInt = _
  rw [Int64.toBitVec_and, ft_bvL, ft_bvL]
  have e2 : (BitVec.ofInt 64 4294967295).toNat = 2 ^ 32 - 1 := by decide
  have e1 : (BitVec.ofInt 64 x).toNat = (x % 18446744073709551616).toNat := by rw [BitVec.toNat_ofInt]; rfl
  have e : (BitVec.ofInt 64 x &&& BitVec.ofInt 64 4294967295).toNat = (x % 4294967296).toNat := by
    rw [BitVec.toNat_and, e2, Nat.and_two_pow_sub_one_eq_mod, e1]
    omega
  rw [BitVec.toInt_eq_toNat_of_lt (by rw [e]; omega), e]
  omega
theorem ft_sh63 {s : Int} (h0 : 0 ≤ s) (h1 : s < 64) : ((Int32.ofInt s).toInt64.toUInt64 &&& Int64.toUInt64 63).toNat = s.toNat := by
  rw [ft_i2l ⟨by omega, by omega⟩, UInt64.toNat_and]
  have e1 : (Int64.ofInt s).toUInt64.toNat = s.toNat := by
    show (Int64.ofInt s).toBitVec.toNat = _
    rw [ft_bvL, BitVec.toNat_ofInt]
    congr 1
    omega
  have e2 : (Int64.toUInt64 63).toNat = 2 ^ 6 - 1 := by decide
  rw [e1, e2, Nat.and_two_pow_sub_one_eq_mod]
  omega
theorem ft_ushrL_eq {x s : Int} (hx : 0 ≤ x) (hx1 : ft_inL x) (h0 : 0 ≤ s) (h1 : s < 64) : ft_ushrL x s = x / 2 ^ s.toNat := by
  unfold ft_ushrL
  have hx2 := hx1.2
  have e1 : (Int64.ofInt x).toUInt64.toNat = x.toNat := by
    show (Int64.ofInt x).toBitVec.toNat = _
    rw [ft_bvL, BitVec.toNat_ofInt]
    congr 1
    omega
  have e : ((Int64.ofInt x).toUInt64 >>> ((Int32.ofInt s).toInt64.toUInt64 &&& Int64.toUInt64 63)).toNat = x.toNat / 2 ^ s.toNat := by
    rw [UInt64.toNat_shiftRight, ft_sh63 h0 h1, e1, Nat.mod_eq_of_lt (by omega), Nat.shiftRight_eq_div_pow]
  have hle := Nat.div_le_self x.toNat (2 ^ s.toNat)
  show (((Int64.ofInt x).toUInt64 >>> ((Int32.ofInt s).toInt64.toUInt64 &&& Int64.toUInt64 63)).toBitVec).toInt = _
  rw [BitVec.toInt_eq_toNat_of_lt]
  · show (((Int64.ofInt x).toUInt64 >>> ((Int32.ofInt s).toInt64.toUInt64 &&& Int64.toUInt64 63)).toNat : Int) = _
    rw [e]
    obtain ⟨a, rfl⟩ := Int.eq_ofNat_of_zero_le hx
    simp
  · show 2 * ((Int64.ofInt x).toUInt64 >>> ((Int32.ofInt s).toInt64.toUInt64 &&& Int64.toUInt64 63)).toNat < 2 ^ 64
    rw [e]
    omega
