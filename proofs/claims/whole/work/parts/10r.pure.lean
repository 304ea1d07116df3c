/-! masks of the reference: containing, aligned; bytes -/
def m_mask (n : Int) : Int := if n = 0 then 0 else ft_shl (-1) (ft_sub 32 n)
theorem ft_mask_all : ∀ n : Nat, n < 33 → BitVec.ofInt 32 (m_mask n) = BitVec.allOnes 32 <<< (32 - n) := by decide +kernel
theorem ft_mask_bv {n : Int} (h0 : 0 ≤ n) (h1 : n ≤ 32) : BitVec.ofInt 32 (m_mask n) = BitVec.allOnes 32 <<< (32 - n.toNat) := by
  have := ft_mask_all n.toNat (by omega)
  rwa [Int.toNat_of_nonneg h0] at this
theorem ft_hi (x : BitVec 32) (s : Nat) : (x &&& (BitVec.allOnes 32 <<< s)).toNat = 0 ↔ x.toNat / 2 ^ s = 0 := by
  have e : x &&& (BitVec.allOnes 32 <<< s) = (x >>> s) <<< s := by
    have hA : ∀ j, j < 32 → (BitVec.allOnes 32).getLsbD j = true := by decide
    generalize BitVec.allOnes 32 = A at hA ⊢
    apply BitVec.eq_of_getLsbD_eq
    intro i hi
    rw [BitVec.getLsbD_and, BitVec.getLsbD_shiftLeft, BitVec.getLsbD_shiftLeft, BitVec.getLsbD_ushiftRight]
    by_cases c : i < s
    · simp [c]
    · simp [c, hi, hA (i - s) (by omega), show s + (i - s) = i by omega]
  rw [e, BitVec.toNat_shiftLeft, BitVec.toNat_ushiftRight, Nat.shiftLeft_eq, Nat.shiftRight_eq_div_pow]
  have h1 : x.toNat / 2 ^ s * 2 ^ s ≤ x.toNat := Nat.div_mul_le_self _ _
  have h2 := x.isLt
  rw [Nat.mod_eq_of_lt (by omega)]
  have h3 := Nat.two_pow_pos s
  constructor
  · intro h
    rcases Nat.mul_eq_zero.mp h with h | h
    · exact h
    · omega
  · intro h
    rw [h, Nat.zero_mul]
theorem ft_lo (x : BitVec 32) (s : Nat) : (x &&& ~~~(BitVec.allOnes 32 <<< s)).toNat = x.toNat % 2 ^ s := by
  apply Nat.eq_of_testBit_eq
  intro i
  rw [BitVec.testBit_toNat, Nat.testBit_mod_two_pow, BitVec.testBit_toNat]
  have hA : ∀ j, j < 32 → (BitVec.allOnes 32).getLsbD j = true := by decide
  generalize BitVec.allOnes 32 = A at hA ⊢
  by_cases c : i < 32
  · rw [BitVec.getLsbD_and, BitVec.getLsbD_not, BitVec.getLsbD_shiftLeft]
    by_cases d : i < s
    · simp [d, c]
    · simp [d, c, hA (i - s) (by omega)]
  · have : x.getLsbD i = false := BitVec.getLsbD_of_ge _ _ (by omega)
    simp [this]
theorem ft_xdiv (a b s : Nat) : (a ^^^ b) / 2 ^ s = 0 ↔ a / 2 ^ s = b / 2 ^ s := by
  rw [← Nat.shiftRight_eq_div_pow, ← Nat.shiftRight_eq_div_pow, ← Nat.shiftRight_eq_div_pow, Nat.shiftRight_xor_distrib]
  generalize a >>> s = x
  generalize b >>> s = y
  constructor
  · intro h
    apply Nat.eq_of_testBit_eq
    intro i
    have := congrArg (fun n => n.testBit i) h
    simp only [Nat.testBit_xor, Nat.zero_testBit] at this
    revert this
    cases x.testBit i <;> cases y.testBit i <;> simp
  · rintro rfl
    exact Nat.xor_self _
theorem ft_pSzN {n : Int} : pSz n = ((2 ^ (32 - n.toNat) : Nat) : Int) := by unfold pSz; push_cast; rfl
theorem ft_unN (x : Int) : pUn x = (((pUn x).toNat : Nat) : Int) := by have := pUn_rng x; omega
/-- the reference's 'contains' -/
theorem ft_cont {v n a : Int} (h0 : 0 ≤ n) (h1 : n ≤ 32) : ft_and (ft_xor v a) (m_mask n) = 0 ↔ pUn v / pSz n = pUn a / pSz n := by
  have e : ft_and (ft_xor v a) (m_mask n) = ((BitVec.ofInt 32 v ^^^ BitVec.ofInt 32 a) &&& BitVec.ofInt 32 (m_mask n)).toInt := by
    show ((Int32.ofInt (Int32.ofInt v ^^^ Int32.ofInt a).toInt &&& Int32.ofInt (m_mask n)).toBitVec).toInt = _
    rw [ft_bk]
    rfl
  rw [e, ft_zero32, ft_mask_bv h0 h1, ft_hi, BitVec.toNat_xor, ft_bv32, ft_bv32, ft_xdiv, ft_unN v, ft_unN a, ft_pSzN]
  generalize (pUn v).toNat = x
  generalize (pUn a).toNat = y
  simp only [Int.toNat_natCast]
  rw [← Int.natCast_ediv, ← Int.natCast_ediv]
  omega
theorem ft_xor_neg (x : Int) : BitVec.ofInt 32 (ft_xor x (-1)) = ~~~(BitVec.ofInt 32 x) := by
  show BitVec.ofInt 32 ((Int32.ofInt x ^^^ Int32.ofInt (-1)).toBitVec).toInt = _
  rw [BitVec.ofInt_toInt, Int32.toBitVec_xor, ft_bvI, ft_bvI]
  have : BitVec.ofInt 32 (-1) = BitVec.allOnes 32 := by decide
  rw [this, BitVec.xor_allOnes]
/-- the reference's test of a prefix -/
theorem ft_algn {v n : Int} (h0 : 0 ≤ n) (h1 : n ≤ 32) : ft_and v (ft_xor (m_mask n) (-1)) = 0 ↔ pUn v % pSz n = 0 := by
  have e : ft_and v (ft_xor (m_mask n) (-1)) = (BitVec.ofInt 32 v &&& BitVec.ofInt 32 (ft_xor (m_mask n) (-1))).toInt := rfl
  rw [e, ft_zero32, ft_xor_neg, ft_mask_bv h0 h1, ft_lo, ft_bv32, ft_unN v, ft_pSzN]
  generalize (pUn v).toNat = x
  simp only [Int.toNat_natCast]
  rw [← Int.natCast_emod]
  omega
/-! bytes of a word -/
theorem ft_shr_all {s : Int} (h0 : 0 ≤ s) (h1 : s < 32) (x : Int) (hx : ft_in x) : ft_shr x s = x / 2 ^ s.toNat := by
  show ((Int32.ofInt x >>> (Int32.ofInt s &&& 31)).toBitVec).toInt = _
  have e1 : ((Int32.ofInt s &&& 31).toBitVec.smod 32).toNat = s.toNat := by
    have : ∀ k : Nat, k < 32 → ((Int32.ofInt k &&& 31).toBitVec.smod 32).toNat = k := by decide +kernel
    have := this s.toNat (by omega)
    rwa [Int.toNat_of_nonneg h0] at this
  rw [Int32.toBitVec_shiftRight, BitVec.sshiftRight_eq', e1, BitVec.toInt_sshiftRight, Int.shiftRight_eq_div_pow]
  have : (Int32.ofInt x).toBitVec.toInt = x := ft_toI hx
  rw [this]
  congr 1
theorem ft_i2b_eq (x : Int) : ft_i2b x = Int.bmod x 256 := by
  unfold ft_i2b
  rw [Int8.toInt_toInt32, Int32.toInt_toInt8, Int32.toInt_ofInt]
  apply Int.bmod_bmod_of_dvd
  decide
