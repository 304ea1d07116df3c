/-! more numbers: shifts, masks, prefixes -/
/-- the number of addresses of a prefix of length n -/
def pSz (n : Int) : Int := 2 ^ (32 - n.toNat)
/-- an int as an address -/
def pUn (x : Int) : Int := x % 4294967296
theorem pSz_pos (n : Int) : 0 < pSz n := by
  unfold pSz
  have := Nat.two_pow_pos (32 - n.toNat)
  exact_mod_cast this
theorem pSz_le (n : Int) : pSz n ≤ 4294967296 := by
  unfold pSz
  have h1 : 2 ^ (32 - n.toNat) ≤ 4294967296 := Nat.pow_le_pow_right (n := 2) (by omega) (Nat.sub_le 32 n.toNat)
  have e : ((2 ^ (32 - n.toNat) : Nat) : Int) = (2 : Int) ^ (32 - n.toNat) := by push_cast; rfl
  rw [← e]
  exact Int.ofNat_le.mpr h1
theorem pUn_rng (x : Int) : 0 ≤ pUn x ∧ pUn x < 4294967296 := by unfold pUn; omega
theorem ft_l2i_eq {x : Int} (h : ft_in x) : ft_l2i x = x := by
  unfold ft_l2i
  rw [Int64.toInt_toInt32, ft_toL ⟨by have := h.1; omega, by have := h.2; omega⟩]
  exact Int.bmod_eq_of_le (by have := h.1; omega) (by have := h.2; omega)
theorem ft_l2i_un {x : Int} (h : ft_inL x) : pUn (ft_l2i x) = pUn x := by
  unfold ft_l2i pUn
  rw [Int64.toInt_toInt32, ft_toL h]
  exact Int.bmod_emod
theorem ft_shl_63 {s : Int} (h0 : 0 ≤ s) (h1 : s < 64) : ((Int32.ofInt s).toInt64 &&& 63).toBitVec.toNat = s.toNat := by
  rw [ft_i2l ⟨by omega, by omega⟩, Int64.toBitVec_and, BitVec.toNat_and, ft_bvL]
  have e2 : (63 : Int64).toBitVec.toNat = 2 ^ 6 - 1 := by decide
  rw [e2, Nat.and_two_pow_sub_one_eq_mod, BitVec.toNat_ofInt]
  omega
theorem ft_shlL_eq {x s : Int} (hx : 0 ≤ x) (h0 : 0 ≤ s) (h1 : s < 64) (hb : x * 2 ^ s.toNat < 9223372036854775808) : ft_shlL x s = x * 2 ^ s.toNat := by
  have hp : (0 : Int) < 2 ^ s.toNat := by have := Nat.two_pow_pos s.toNat; exact_mod_cast this
  have hxb : x < 9223372036854775808 := by
    have : x * 1 ≤ x * 2 ^ s.toNat := Int.mul_le_mul_of_nonneg_left hp hx
    omega
  unfold ft_shlL
  show ((Int64.ofInt x <<< ((Int32.ofInt s).toInt64 &&& 63)).toBitVec).toInt = _
  have e0 : ((Int64.ofInt x <<< ((Int32.ofInt s).toInt64 &&& 63)).toBitVec).toNat = x.toNat * 2 ^ s.toNat := by
    rw [Int64.toBitVec_shiftLeft, ft_bvL]
    have e1 : (((Int32.ofInt s).toInt64 &&& 63).toBitVec.smod 64).toNat = s.toNat := by
      have e3 : ((Int32.ofInt s).toInt64 &&& 63).toBitVec = BitVec.ofNat 64 s.toNat := by
        apply BitVec.eq_of_toNat_eq
        rw [ft_shl_63 h0 h1, BitVec.toNat_ofNat]
        omega
      have h9 : s.toNat < 64 := by omega
      rw [e3]
      generalize s.toNat = k at h9
      have : ∀ k, k < 64 → ((BitVec.ofNat 64 k).smod 64).toNat = k := by decide
      exact this k h9
    rw [BitVec.shiftLeft_eq', e1, BitVec.toNat_shiftLeft, BitVec.toNat_ofInt, Nat.shiftLeft_eq]
    have e4 : (x % (2 ^ 64 : Nat)).toNat = x.toNat := by congr 1; omega
    rw [e4]
    apply Nat.mod_eq_of_lt
    have e5 : ((x.toNat * 2 ^ s.toNat : Nat) : Int) = x * 2 ^ s.toNat := by
      push_cast
      rw [Int.toNat_of_nonneg hx]
    omega
  have e5 : ((x.toNat * 2 ^ s.toNat : Nat) : Int) = x * 2 ^ s.toNat := by
    push_cast
    rw [Int.toNat_of_nonneg hx]
  rw [BitVec.toInt_eq_toNat_of_lt (by rw [e0]; omega), e0, e5]
theorem ft_orL_nat {x y : Int} (hx : 0 ≤ x) (hx1 : ft_inL x) (hy : 0 ≤ y) (hy1 : ft_inL y) : ft_orL x y = ((x.toNat ||| y.toNat : Nat) : Int) := by
  show (Int64.ofInt x ||| Int64.ofInt y).toBitVec.toInt = _
  rw [Int64.toBitVec_or, ft_bvL, ft_bvL]
  have hx2 := hx1.2
  have hy2 := hy1.2
  have e1 : (BitVec.ofInt 64 x).toNat = x.toNat := by rw [BitVec.toNat_ofInt]; congr 1; omega
  have e2 : (BitVec.ofInt 64 y).toNat = y.toNat := by rw [BitVec.toNat_ofInt]; congr 1; omega
  have hle : x.toNat ||| y.toNat < 2 ^ 63 := Nat.or_lt_two_pow (by omega) (by omega)
  rw [BitVec.toInt_eq_toNat_of_lt (by rw [BitVec.toNat_or, e1, e2]; omega), BitVec.toNat_or, e1, e2]
/-- a key out of value and length -/
theorem ft_key {v n : Int} (hv : 0 ≤ v) (hv1 : v < 4294967296) (hn : 0 ≤ n) (hn1 : n < 64) : ft_orL (ft_shlL v 6) n = 64 * v + n := by
  have e : ft_shlL v 6 = v * 64 := ft_shlL_eq hv (by decide) (by decide) (by show v * 64 < _; omega)
  rw [e, ft_orL_nat (by omega) ⟨by omega, by omega⟩ hn ⟨by omega, by omega⟩]
  have e2 : (v * 64).toNat = v.toNat <<< 6 := by rw [Nat.shiftLeft_eq]; omega
  rw [e2, ← Nat.shiftLeft_add_eq_or_of_lt (by omega : n.toNat < 2 ^ 6), Nat.shiftLeft_eq]
  omega
theorem ft_size {n : Int} (h0 : 0 ≤ n) (h1 : n ≤ 32) : ft_ushrL 4294967296 n = pSz n := by
  rw [ft_ushrL_eq (by decide) ⟨by decide, by decide⟩ h0 (by omega)]
  unfold pSz
  have e : (4294967296 : Int) = 2 ^ (32 - n.toNat) * 2 ^ n.toNat := by
    rw [← Int.pow_add, show 32 - n.toNat + n.toNat = 32 by omega]
    rfl
  rw [e]
  have hp : (2 : Int) ^ n.toNat ≠ 0 := by
    have := Nat.two_pow_pos n.toNat
    have : (0 : Int) < 2 ^ n.toNat := by exact_mod_cast this
    omega
  exact Int.mul_ediv_cancel _ hp
theorem ft_size2 {n : Int} (h0 : 0 ≤ n) (h1 : n ≤ 32) : ft_shlL 1 (ft_sub 32 n) = pSz n := by
  rw [ft_sub_eq ⟨by omega, by omega⟩, ft_shlL_eq (by decide) (by omega) (by omega)]
  · unfold pSz
    rw [Int.one_mul, show (32 - n).toNat = 32 - n.toNat by omega]
  · rw [Int.one_mul, show (32 - n).toNat = 32 - n.toNat by omega]
    have := pSz_le n
    unfold pSz at this
    omega
theorem ft_key_st {k : Int} (h : 0 ≤ k) (h1 : ft_inL k) : ft_ushrL k 6 = k / 64 := ft_ushrL_eq h h1 (by decide) (by decide)
theorem ft_key_ln {k : Int} (h : 0 ≤ k) (h1 : ft_inL k) : ft_andL k 63 = k % 64 := ft_andL_mask 6 (by decide) h h1
/-! 32 bits -/
theorem ft_bv32 (x : Int) : (BitVec.ofInt 32 x).toNat = (pUn x).toNat := by rw [BitVec.toNat_ofInt]; rfl
theorem ft_zero32 {b : BitVec 32} : b.toInt = 0 ↔ b.toNat = 0 := by
  rw [BitVec.toInt_eq_toNat_cond]
  split <;> omega
theorem ft_and_mask (k : Nat) (hk : k ≤ 31) (x : Int) : ft_and x (2 ^ k - 1) = x % 2 ^ k := by
  show ((Int32.ofInt x &&& Int32.ofInt (2 ^ k - 1)).toBitVec).toInt = _
  rw [Int32.toBitVec_and, ft_bvI, ft_bvI]
  have hpn := Nat.two_pow_pos k
  have hle : 2 ^ k ≤ 2 ^ 31 := Nat.pow_le_pow_right (by omega) hk
  have hc : ((2 ^ k : Nat) : Int) = (2 : Int) ^ k := by push_cast; rfl
  have e2 : (BitVec.ofInt 32 (2 ^ k - 1)).toNat = 2 ^ k - 1 := by
    rw [BitVec.toNat_ofInt, ← hc]
    omega
  have e : (BitVec.ofInt 32 x &&& BitVec.ofInt 32 (2 ^ k - 1)).toNat = (x % 2 ^ k).toNat := by
    rw [BitVec.toNat_and, e2, Nat.and_two_pow_sub_one_eq_mod, ft_bv32]
    unfold pUn
    have hd : (2 : Int) ^ k ∣ 4294967296 := by
      refine ⟨2 ^ (32 - k), ?_⟩
      rw [← Int.pow_add, show k + (32 - k) = 32 by omega]
      rfl
    have h3 := Int.emod_emod_of_dvd x hd
    rw [← h3]
    have h0 : 0 ≤ x % 4294967296 := by omega
    obtain ⟨a, ha⟩ := Int.eq_ofNat_of_zero_le h0
    rw [ha, ← hc]
    simp only [Int.toNat_natCast, ← Int.natCast_emod]
  have h0 : 0 ≤ x % 2 ^ k := Int.emod_nonneg _ (by omega)
  have h1 : x % 2 ^ k < 2 ^ k := Int.emod_lt_of_pos _ (by omega)
  rw [BitVec.toInt_eq_toNat_of_lt (by rw [e]; omega), e]
  omega
