/-! REPORTS: addresses -/
theorem by_Re {x s : Int} (hx : 0 ≤ x ∧ x < 4294967296) (hs : s = 0 ∨ s = 8 ∨ s = 16 ∨ s = 24) : ft_l2i (ft_andL (ft_ushrL x s) 255) = x / 2 ^ s.toNat % 256 := by
  have hp : (0 : Int) < 2 ^ s.toNat := Int.pow_pos (by omega)
  have h0 : 0 ≤ x / 2 ^ s.toNat := Int.ediv_nonneg hx.1 (by omega)
  have h1 : x / 2 ^ s.toNat ≤ x := Int.ediv_le_self _ hx.1
  rw [ft_ushrL_eq hx.1 (by unfold ft_inL; omega) (by omega) (by omega), show (255 : Int) = 2 ^ 8 - 1 by decide, ft_andL_mask 8 (by omega) h0 (by unfold ft_inL; omega), show (2 : Int) ^ 8 = 256 by decide, ft_l2i_eq (by unfold ft_in; omega)]
def bTx (x : Int) (k : Nat) : List Int := nTx (x / 2 ^ k % 256)
/-- an address as a report writes it -/
def aTx (x : Int) : List Int := bTx x 24 ++ [46] ++ bTx x 16 ++ [46] ++ bTx x 8 ++ [46] ++ bTx x 0
theorem nTx_len (n : Int) : (nTx n).length = tp n + 1 := dgs_len n (tp n)
theorem tp_255 {n : Int} (h : n ≤ 255) : tp n ≤ 2 := by unfold tp; (repeat' split) <;> omega
theorem bTx_len (x : Int) (k : Nat) : (bTx x k).length ≤ 3 := by
  have h1 := tp_255 (n := x / 2 ^ k % 256) (by omega)
  unfold bTx
  rw [nTx_len]
  omega
theorem aTx_len (x : Int) : (aTx x).length ≤ 15 := by
  unfold aTx
  simp only [List.length_append, List.length_singleton]
  have h1 := bTx_len x 24
  have h2 := bTx_len x 16
  have h3 := bTx_len x 8
  have h4 := bTx_len x 0
  omega
