/-! bits of ints -/
theorem ft_and_nat {a b : Nat} (ha : a < 2147483648) (hb : b < 2147483648) : ft_and (a : Int) (b : Int) = ((a &&& b : Nat) : Int) := by
  show (Int32.ofInt (a : Int) &&& Int32.ofInt (b : Int)).toBitVec.toInt = _
  rw [Int32.toBitVec_and, ft_bvI, ft_bvI]
  have e1 : (BitVec.ofInt 32 (a : Int)).toNat = a := by rw [BitVec.toNat_ofInt]; omega
  have e2 : (BitVec.ofInt 32 (b : Int)).toNat = b := by rw [BitVec.toNat_ofInt]; omega
  have hle : a &&& b ≤ a := Nat.and_le_left
  rw [BitVec.toInt_eq_toNat_of_lt (by rw [BitVec.toNat_and, e1, e2]; omega), BitVec.toNat_and, e1, e2]
theorem ft_or_nat {a b : Nat} (ha : a < 2147483648) (hb : b < 2147483648) : ft_or (a : Int) (b : Int) = ((a ||| b : Nat) : Int) := by
  show (Int32.ofInt (a : Int) ||| Int32.ofInt (b : Int)).toBitVec.toInt = _
  rw [Int32.toBitVec_or, ft_bvI, ft_bvI]
  have e1 : (BitVec.ofInt 32 (a : Int)).toNat = a := by rw [BitVec.toNat_ofInt]; omega
  have e2 : (BitVec.ofInt 32 (b : Int)).toNat = b := by rw [BitVec.toNat_ofInt]; omega
  have hle : a ||| b < 2 ^ 31 := Nat.or_lt_two_pow ha hb
  rw [BitVec.toInt_eq_toNat_of_lt (by rw [BitVec.toNat_or, e1, e2]; omega), BitVec.toNat_or, e1, e2]
theorem ft_shl_all : ∀ n : Nat, n < 16 → ft_shl 1 (n : Int) = ((2 ^ n : Nat) : Int) := by decide +kernel
theorem ft_bit1 {s k : Nat} (hs : s < 65536) (hk : k < 16) : ft_and (ft_shr (s : Int) (k : Int)) 1 = 0 ↔ ¬ s.testBit k = true := by
  rw [ft_shr_all (by omega) (by omega) _ ⟨by omega, by omega⟩, Int.toNat_natCast]
  have h1 := ft_and_mask 1 (by omega) ((s : Int) / 2 ^ k)
  rw [show ((2 : Int) ^ 1 - 1) = 1 from rfl] at h1
  rw [h1, Nat.testBit_eq_decide_div_mod_eq]
  simp only [decide_eq_true_eq]
  have : ((s : Int) / 2 ^ k) % 2 ^ 1 = ((s / 2 ^ k % 2 : Nat) : Int) := by push_cast; rfl
  rw [this]
  omega
theorem ft_bit2 {s k : Nat} (hs : s < 65536) (hk : k < 16) : ft_and (s : Int) (ft_shl 1 (k : Int)) = 0 ↔ ¬ s.testBit k = true := by
  have h2 : (2 : Nat) ^ k < 2147483648 := Nat.lt_of_le_of_lt (Nat.pow_le_pow_right (by omega) (show k ≤ 15 by omega)) (by decide)
  rw [ft_shl_all k hk, ft_and_nat (by omega) h2, and_pow]
  have hp : (2 : Nat) ^ k ≠ 0 := Nat.ne_of_gt (Nat.pow_pos (by omega))
  by_cases c : s.testBit k = true
  · rw [if_pos c]
    exact ⟨fun q => absurd q (by omega), fun q => absurd c q⟩
  · rw [if_neg c]
    exact ⟨fun _ => c, fun _ => rfl⟩
theorem pUn_or (x y : Int) : pUn (ft_or x y) = (((pUn x).toNat ||| (pUn y).toNat : Nat) : Int) := by
  have e : BitVec.ofInt 32 (ft_or x y) = BitVec.ofInt 32 x ||| BitVec.ofInt 32 y := by
    show BitVec.ofInt 32 ((Int32.ofInt x ||| Int32.ofInt y).toInt) = _
    rw [← ft_bvI, ft_bk]
    rfl
  have h1 := congrArg BitVec.toNat e
  rw [ft_bv32, BitVec.toNat_or, ft_bv32, ft_bv32] at h1
  rw [ft_unN, h1]
theorem pUn_shl_all : ∀ d : Nat, d < 32 → pUn (ft_shl 1 (ft_sub 31 (31 - (d : Int)))) = 2 ^ d := by decide +kernel
/-- the right half's first address -/
theorem ft_right {x : Int} {d : Nat} (hn : ndOk (d + 1) (pUn x)) : pUn (ft_or x (ft_shl 1 (ft_sub 31 (31 - (d : Int))))) = pUn x + 2 ^ d := by
  have hd := hn.1
  rw [pUn_or, pUn_shl_all d (by omega)]
  have hm := nd_mod hn
  have hu := pUn_rng x
  obtain ⟨n, hN⟩ := Int.eq_ofNat_of_zero_le hu.1
  rw [hN] at hm ⊢
  have hm2 : n % 2 ^ (d + 1) = 0 := by exact_mod_cast hm
  have e1 : ((2 : Int) ^ d).toNat = 2 ^ d := by
    have : ((2 ^ d : Nat) : Int) = (2 : Int) ^ d := by push_cast; rfl
    omega
  rw [Int.toNat_natCast, e1]
  have h2 := Nat.two_pow_add_eq_or_of_lt (i := d + 1) (b := 2 ^ d) (Nat.pow_lt_pow_right (by omega) (by omega)) (n / 2 ^ (d + 1))
  have h3 : 2 ^ (d + 1) * (n / 2 ^ (d + 1)) = n := Nat.mul_div_cancel' (Nat.dvd_of_mod_eq_zero hm2)
  rw [h3] at h2
  rw [← h2]
  push_cast
  rfl
theorem rPr_div {L : List (Int × Int)} {d : Nat} {v : Int} (hn : ndOk d v) {i : Nat} (hi : i < L.length) : rPr d v (kAt L i, vAt L i) = true ↔ (32 : Int) - d < kN L i ∧ v / pSz (32 - d) = kS L i / pSz (32 - d) := by
  rw [rPr_iff]
  have h1 : pCt (64 * v + (32 - (d : Int))) (kS L i) ↔ pIn (64 * v + (32 - (d : Int))) (kS L i) := pCt_iff hn.2
  rw [nd_in hn.1] at h1
  unfold pCt at h1
  rw [(nd_eq hn.1).1, (nd_eq hn.1).2] at h1
  simp only
  rw [h1]
  unfold kS kN
  constructor
  · rintro ⟨a, b, c⟩; exact ⟨c, a, b⟩
  · rintro ⟨c, a, b⟩; exact ⟨a, b, c⟩
/-! THE REFERENCE'S PARTS -/
theorem v_Mo_hasRoutes {o : Nat} (ho : o = 10) {h : ftH} {S : ftS} {P : List ftS} (hI : mcI h S P) {B : Int} (hok : sOk B S) {d : Nat} {x : Int} (hn : ndOk d (pUn x)) {R : Option ftV → ftH → Prop} (hk : R (some (.inl (if hR S.2.1 d (pUn x) = true then 1 else 0))) h) : ∀ m i : Nat, i + m = S.2.1.length → (∀ j, j < i → ¬ rPr d (pUn x) (kAt S.2.1 j, vAt S.2.1 j) = true) → ft_V k_Mo_hasRoutes 2 [some (.inr (.inr 309)), some (.inl x), some (.inl (32 - (d : Int))), some (.inl (i : Int))] [] h R := by
  obtain ⟨e0, e1, e2, e3, e4⟩ := mc_eq hI
  have hl := (mc_len hI).1
  have h60 := hok.2.1.2.2
  obtain ⟨z1, z2, z3, z4, z5⟩ := ft_mz_0.mp hI.1.1
  rw [← ho] at e1 z4
  intro m
  induction m with
  | zero =>
    intro i hi hno
    refine b_Mo_hasRoutes_2 ⟨fun c => ?_, fun c => absurd (by omega) c⟩
    rw [if_neg (hR_no.mpr (fun q hq => ?_))] at hk
    · exact hk
    · obtain ⟨j, hj⟩ := List.getElem?_of_mem hq
      have hjl := (List.getElem?_eq_some_iff.mp hj).1
      have := hno j (by omega)
      rw [(kAt_of hj).1, (kAt_of hj).2] at this
      exact this
  | succ m ih =>
    intro i hi hno
    have hiL : i < S.2.1.length := by omega
    have hA := ml_k e1 (fun k hk => z4 k (by omega)) (show i < (h 310 0).toNat by omega)
    have hz4 := z4 i (by omega)
    have hdiv := rPr_div hn hiL
    have go : ¬ rPr d (pUn x) (kAt S.2.1 i, vAt S.2.1 i) = true → ft_V k_Mo_hasRoutes 2 [some (.inr (.inr 309)), some (.inl x), some (.inl (32 - (d : Int))), some (.inl (ft_add (i : Int) 1))] [] h R := by
      intro hne
      rw [ft_add_eq ⟨by omega, by omega⟩]
      refine ih (i + 1) (by omega) (fun j hj => ?_)
      by_cases c : j = i
      · rw [c]; exact hne
      · exact hno j (by omega)
    refine b_Mo_hasRoutes_2 ⟨fun c => absurd c (by omega), fun _ => ?_⟩
    rw [Int.toNat_natCast, show 10 + 3 * i = o + 3 * i by omega, show 11 + 3 * i = o + 3 * i + 1 by omega, ← hA.1, ← hA.2.1]
    have hd := hn.1
    refine ⟨⟨by omega, by omega⟩, fun c => go (fun q => ?_), fun c => ⟨⟨by omega, by omega⟩, ⟨by omega, by omega⟩, fun e => go (fun q => ?_), fun e => ?_⟩⟩
    · have := (hdiv.mp q).1; omega
    · exact e (hdiv.mp q).2
    · rw [if_pos (hR_iff.mpr ⟨_, List.mem_of_getElem? (kAt_get hiL), hdiv.mpr ⟨by omega, e⟩⟩)] at hk
      exact hk
theorem d_Mo_hasRoutes {h : ftH} {S : ftS} {P : List ftS} (hI : mcI h S P) {B : Int} (hok : sOk B S) {d : Nat} {x : Int} (hn : ndOk d (pUn x)) : ft_C k_Mo_hasRoutes [.inr (.inr 309), .inl x, .inl (32 - (d : Int))] h (fun r h' => r = some (.inl (if hR S.2.1 d (pUn x) = true then 1 else 0)) ∧ h' = h) :=
  ft_enter (n := 1) rfl (Nat.le_of_ble_eq_true rfl) rfl (b_Mo_hasRoutes_0 (v_Mo_hasRoutes rfl hI hok hn ⟨rfl, rfl⟩ S.2.1.length 0 (by omega) (fun j hj => absurd hj (Nat.not_lt_zero j))))
def mm (f : Nat → Int) : Nat → Nat
  | 0 => 1
  | k + 1 => if f k = 0 then mm f k else mm f k + 2
theorem mm_ext {f g : Nat → Int} : ∀ k, (∀ j, j < k → f j = g j) → mm f k = mm g k
  | 0, _ => rfl
  | k + 1, h => by rw [mm, mm, mm_ext k (fun j hj => h j (by omega)), h k (by omega)]
theorem mm_pos (f : Nat → Int) : ∀ k, 1 ≤ mm f k
  | 0 => Nat.le_refl 1
  | k + 1 => by have := mm_pos f k; rw [mm]; split <;> omega
theorem mm_mono {f : Nat → Int} {j : Nat} : ∀ k, j ≤ k → mm f j ≤ mm f k
  | 0, h => by rw [show j = 0 by omega]; exact Nat.le_refl _
  | k + 1, h => by
    by_cases c : j = k + 1
    · rw [c]; exact Nat.le_refl _
    · have := mm_mono (f := f) k (show j ≤ k by omega)
      rw [mm]
      split <;> omega
theorem c_Mo_addsPart {h : ftH} {m : Nat} (hm : h 309 10 = (m : Int)) (hl : m < 3900) {x l : Int} : ft_C k_Mo_addsPart [.inr (.inr 309), .inl x, .inl l] h (fun r h' => r = none ∧ (∀ k, k ≠ 309 → k ≠ 313 → k ≠ 314 → k ≠ 315 → h' k = h k) ∧ (∀ j, j ≠ 10 → h' 309 j = h 309 j) ∧ h' 309 10 = ((m + 1 : Nat) : Int) ∧ (∀ j, j ≠ m → h' 313 j = h 313 j ∧ h' 314 j = h 314 j ∧ h' 315 j = h 315 j) ∧ h' 313 m = x ∧ h' 314 m = l ∧ h' 315 m = 0) := by
  refine ft_enter (n := 0) rfl (Nat.le_of_ble_eq_true rfl) rfl (b_Mo_addsPart_0 ?_)
  rw [hm, Int.toNat_natCast]
  refine ⟨⟨by omega, by omega⟩, fun h1 e1 => ?_⟩
  have q1 : h1 309 = h 309 := by rw [e1]; exact ft_hs_ne _ (by omega)
  rw [q1, hm, Int.toNat_natCast]
  refine ⟨⟨by omega, by omega⟩, fun h2 e2 => ?_⟩
  have q2 : h2 309 = h 309 := by rw [e2, ft_hs_ne _ (by omega), q1]
  rw [q2, hm, Int.toNat_natCast]
  refine ⟨⟨by omega, by omega⟩, fun h3 e3 h4 e4 => ?_⟩
  have q3 : h3 309 = h 309 := by rw [e3, ft_hs_ne _ (by omega), q2]
  rw [q3, hm, ft_add_eq ⟨by omega, by omega⟩] at e4
  refine ⟨rfl, fun k k1 k2 k3 k4 => by rw [e4, ft_hs_ne k k1, e3, ft_hs_ne k k4, e2, ft_hs_ne k k3, e1, ft_hs_ne k k2], fun j hj => by rw [e4, ft_hs_j hj, q3], by rw [e4, ft_hs_same]; push_cast; rfl, fun j hj => ⟨?_, ?_, ?_⟩, ?_, ?_, ?_⟩
  · rw [e4, ft_hs_ne _ (by omega), e3, ft_hs_ne _ (by omega), e2, ft_hs_ne _ (by omega), e1, ft_hs_j hj]
  · rw [e4, ft_hs_ne _ (by omega), e3, ft_hs_ne _ (by omega), e2, ft_hs_j hj, e1, ft_hs_ne _ (by omega)]
  · rw [e4, ft_hs_ne _ (by omega), e3, ft_hs_j hj, e2, ft_hs_ne _ (by omega), e1, ft_hs_ne _ (by omega)]
  · rw [e4, ft_hs_ne _ (by omega), e3, ft_hs_ne _ (by omega), e2, ft_hs_ne _ (by omega), e1, ft_hs_same]
  · rw [e4, ft_hs_ne _ (by omega), e3, ft_hs_ne _ (by omega), e2, ft_hs_same]
  · rw [e4, ft_hs_ne _ (by omega), e3, ft_hs_same]
