/-! REPORTS: the bytes of an address -/
theorem by_Mo {v s : Int} (hv : ft_in v) (hs : s = 0 ∨ s = 8 ∨ s = 16 ∨ s = 24) : ft_and (ft_shr v s) 255 = pUn v / 2 ^ s.toNat % 256 := by
  rw [ft_shr_all (by omega) (by omega) v hv, show (255 : Int) = 2 ^ 8 - 1 by decide, ft_and_mask 8 (by omega)]
  unfold pUn
  unfold ft_in at hv
  rcases hs with e | e | e | e <;> subst e
  · rw [show ((0 : Int).toNat) = 0 from rfl, show (2 : Int) ^ 0 = 1 by decide, show (2 : Int) ^ 8 = 256 by decide]; omega
  · rw [show ((8 : Int).toNat) = 8 from rfl, show (2 : Int) ^ 8 = 256 by decide]; omega
  · rw [show ((16 : Int).toNat) = 16 from rfl, show (2 : Int) ^ 16 = 65536 by decide, show (2 : Int) ^ 8 = 256 by decide]; omega
  · rw [show ((24 : Int).toNat) = 24 from rfl, show (2 : Int) ^ 24 = 16777216 by decide, show (2 : Int) ^ 8 = 256 by decide]; omega
