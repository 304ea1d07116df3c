/-! the second leaves' contracts -/
theorem ft_bit {x : Int} {k : Nat} (hk : k ≤ 62) (h0 : 0 ≤ x) (hx : ft_inL x) : ft_andL x (2 ^ k) = 0 ↔ ¬ x / 2 ^ k % 2 = 1 := by
  have hc : ((2 ^ k : Nat) : Int) = (2 : Int) ^ k := by push_cast; rfl
  have h1 : 2 ^ k ≤ 2 ^ 62 := Nat.pow_le_pow_right (by omega) hk
  have h2 : ft_inL ((2 ^ k : Nat) : Int) := ⟨by have := Int.natCast_nonneg (2 ^ k); omega, by
    have : ((2 ^ k : Nat) : Int) ≤ ((2 ^ 62 : Nat) : Int) := Int.ofNat_le.mpr h1
    have e : ((2 ^ 62 : Nat) : Int) = 4611686018427387904 := by decide
    omega⟩
  rw [← hc, ft_andL_nat h0 hx (Int.natCast_nonneg _) h2, Int.toNat_natCast]
  obtain ⟨a, rfl⟩ := Int.eq_ofNat_of_zero_le h0
  rw [Int.toNat_natCast]
  have e : ((a : Int) / ((2 ^ k : Nat) : Int) % 2 = 1) ↔ a / 2 ^ k % 2 = 1 := by
    rw [← Int.natCast_ediv]
    omega
  have e2 : ((a &&& 2 ^ k : Nat) : Int) = 0 ↔ a.testBit k = false := by
    constructor
    · intro q
      have q1 : a &&& 2 ^ k = 0 := by omega
      have q2 := congrArg (fun n => n.testBit k) q1
      simpa [Nat.testBit_and, Nat.testBit_two_pow] using q2
    · intro q
      have q1 : a &&& 2 ^ k = 0 := by
        apply Nat.eq_of_testBit_eq
        intro i
        rw [Nat.testBit_and, Nat.testBit_two_pow, Nat.zero_testBit]
        by_cases c : k = i
        · subst c
          simp [q]
        · simp [c]
      omega
  rw [e, e2, Nat.testBit_eq_decide_div_mod_eq]
  simp
theorem c_Mo_contains {a : Int} {b : Int} {c : Int} {h : ftH} (hp : (0 ≤ b ∧ b ≤ 32)) : ft_C k_Mo_contains [.inl a, .inl b, .inl c] h (fun r h' => r = some (.inl ((if pUn a / pSz b = pUn c / pSz b then 1 else 0))) ∧ h' = h) := by
  refine ft_enter (n := 0) rfl (Nat.le_of_ble_eq_true rfl) rfl (b_Mo_contains_0 ?_)
  exact ⟨fun c => ⟨by rw [if_neg (fun q => c ((ft_cont hp.1 hp.2).mpr q))], rfl⟩, fun c => ⟨by rw [if_pos ((ft_cont hp.1 hp.2).mp c)], rfl⟩⟩
theorem c_Mo_isAhead {a : Int} {b : Int} {c : Int} {d : Int} {h : ftH} (hp : ((0 ≤ b ∧ b ≤ 32) ∧ (0 ≤ d ∧ d ≤ 32))) : ft_C k_Mo_isAhead [.inl a, .inl b, .inl c, .inl d] h (fun r h' => r = some (.inl ((if 64 * pUn a + b < 64 * pUn c + d then 1 else 0))) ∧ h' = h) := by
  refine ft_enter (n := 0) rfl (Nat.le_of_ble_eq_true rfl) rfl ?_
  refine fv_okl (i := 0) rfl (fun (i0 : ft_in a) => fv_okl (i := 2) rfl (fun (i2 : ft_in c) => b_Mo_isAhead_0 ?_))
  have h1 := pUn_rng a
  have h2 := pUn_rng c
  have hne : ¬ a = c → ¬ pUn a = pUn c := fun q z => q (by
    have := i0.1; have := i0.2; have := i2.1; have := i2.2
    unfold pUn at z
    omega)
  refine ⟨fun q => ⟨fun z => ⟨?_, rfl⟩, fun z => ⟨?_, rfl⟩⟩, fun q => ⟨fun z => ⟨?_, rfl⟩, fun z => ⟨?_, rfl⟩⟩⟩
  · have := hne q
    rw [if_neg (by omega)]
  · rw [if_pos (by omega)]
  · rw [q, if_neg (by omega)]
  · rw [q, if_pos (by omega)]
theorem c_Mo_isPrefix {a : Int} {b : Int} {h : ftH} : ft_C k_Mo_isPrefix [.inl a, .inl b] h (fun r h' => r = some (.inl ((if (0 ≤ b ∧ b ≤ 32) ∧ pUn a % pSz b = 0 then 1 else 0))) ∧ h' = h) := by
  refine ft_enter (n := 0) rfl (Nat.le_of_ble_eq_true rfl) rfl (b_Mo_isPrefix_0 ?_)
  refine ⟨fun c => ⟨by rw [if_neg (fun q => c q.1)], rfl⟩, fun c => ⟨fun d => ⟨?_, rfl⟩, fun d => ⟨?_, rfl⟩⟩⟩
  · rw [if_neg (fun q => d ((ft_algn c.1 c.2).mpr q.2))]
  · rw [if_pos ⟨c, (ft_algn c.1 c.2).mp d⟩]
theorem c_Mo_isRoute {a : Int} {h : ftH} (hp : (0 ≤ h 310 0)) : ft_C k_Mo_isRoute [.inr (.inr 309), .inl a] h (fun r h' => r = some (.inl ((if 0 ≤ a ∧ a < h 310 0 then 1 else 0))) ∧ h' = h) := by
  refine ft_enter (n := 0) rfl (Nat.le_of_ble_eq_true rfl) rfl ?_
  refine fv_wf (fun hw => b_Mo_isRoute_0 ?_)
  have hi : ft_in (h 310 0) := hw 310 0
  have e : ft_sub (h 310 0) 1 = h 310 0 - 1 := ft_sub_eq ⟨by omega, by have := hi.2; omega⟩
  rw [e]
  refine ⟨?_, rfl⟩
  refine congrArg some (congrArg Sum.inl ?_)
  split <;> split <;> omega
theorem c_FT_contains {a : Int} {b : Int} {h : ftH} (hp : ((0 ≤ a ∧ a < 274877906944) ∧ a % 64 ≤ 32)) : ft_C k_FT_contains [.inr (.inl a), .inr (.inl b)] h (fun r h' => r = some (.inl ((if a / 64 ≤ b ∧ b < a / 64 + pSz (a % 64) then 1 else 0))) ∧ h' = h) := by
  refine ft_enter (n := 0) rfl (Nat.le_of_ble_eq_true rfl) rfl (b_FT_contains_0 ?_)
  refine ⟨hp.1.1, fun c => ⟨?_, rfl⟩, fun c => ⟨hp, fun d => ⟨?_, rfl⟩, fun d => ⟨?_, rfl⟩⟩⟩
  · rw [if_neg (by omega)]
  · rw [if_neg (by omega)]
  · rw [if_pos (by omega)]
theorem c_FT_isPrefix {a : Int} {b : Int} {h : ftH} : ft_C k_FT_isPrefix [.inl a, .inl b] h (fun r h' => r = some (.inl ((if (0 ≤ b ∧ b ≤ 32) ∧ pUn a % pSz b = 0 then 1 else 0))) ∧ h' = h) := by
  refine ft_enter (n := 0) rfl (Nat.le_of_ble_eq_true rfl) rfl (b_FT_isPrefix_0 ?_)
  refine ⟨fun c => ⟨by rw [if_neg (by omega)], rfl⟩, fun c => ⟨fun d => ⟨by rw [if_neg (by omega)], rfl⟩, fun d => ⟨⟨pUn_rng a, by omega, by omega⟩, fun e => ⟨?_, rfl⟩, fun e => ⟨?_, rfl⟩⟩⟩⟩
  · rw [if_neg (fun q => e q.2)]
  · rw [if_pos ⟨⟨by omega, by omega⟩, e⟩]
theorem c_PS_tell {t : Nat} {a : Int} {b : Int} {h : ftH} (ht : ft_sh t = some (.inl 4)) (hp : ((0 ≤ a ∧ a < ft_ln (t + 1)) ∧ 0 ≤ h (t + 1) a.toNat)) : ft_C k_PS_tell [.inr (.inr t), .inl a, .inl b] h (fun r h' => r = some (.inr (.inl ((if b = 0 then h (t + 1) a.toNat / 64 else if b = 1 then h (t + 1) a.toNat % 64 else h (t + 2) a.toNat)))) ∧ h' = h) := by
  refine ft_enter (n := 0) rfl (Nat.le_of_ble_eq_true rfl) rfl (b_PS_tell_0 ht ?_)
  have hn := ft_ln_ps ht
  refine ⟨fun c => ⟨fun d => ⟨⟨hp.1.1, by omega⟩, ?_, rfl⟩, fun d => ⟨hp.1, hp.2, ?_, rfl⟩⟩, fun c => ⟨hp.1, hp.2, ?_, rfl⟩⟩
  · rw [if_neg c, if_neg d]
  · rw [if_neg c, if_pos d]
  · rw [if_pos c]
theorem c_Ch_isKept {a : Int} {h : ftH} (hp : ((0 ≤ a ∧ a < 60) ∧ 0 ≤ h 143 3)) : ft_C k_Ch_isKept [.inr (.inr 143), .inl a] h (fun r h' => r = some (.inl ((if h 143 3 / 2 ^ (59 - a.toNat) % 2 = 1 then 1 else 0))) ∧ h' = h) := by
  refine ft_enter (n := 0) rfl (Nat.le_of_ble_eq_true rfl) rfl ?_
  refine fv_wf (fun hw => b_Ch_isKept_0 ?_)
  have hi : ft_inL (h 143 3) := hw 143 3
  have e : ft_andL (h 143 3) (2 ^ (59 - a.toNat)) = 0 ↔ ¬ h 143 3 / 2 ^ (59 - a.toNat) % 2 = 1 := ft_bit (by omega) hp.2 hi
  refine ⟨hp.1, fun c => ⟨?_, rfl⟩, fun c => ⟨?_, rfl⟩⟩
  · rw [if_neg (e.mp c)]
  · rw [if_pos (by
      by_cases q : h 143 3 / 2 ^ (59 - a.toNat) % 2 = 1
      · exact q
      · exact absurd (e.mpr q) c)]
