/-! printed by wip/whole/gen/gen10.py: what must hold at each cut point -/
set_option maxRecDepth 20000 in
theorem b_FT_isPrefix_0 {x0 : Int} {x1 : Int} {h : ftH} {R : Option ftV → ftH → Prop} 
    (w : ((x1 < 0 → R (some (.inl 0)) h) ∧ (¬ (x1 < 0) → ((32 < x1 → R (some (.inl 0)) h) ∧ (¬ (32 < x1) → (((0 ≤ (pUn x0) ∧ (pUn x0) < 4294967296) ∧ (0 ≤ x1 ∧ x1 ≤ 32)) ∧ ((¬ ((pUn x0) % pSz x1 = 0) → R (some (.inl 0)) h) ∧ ((pUn x0) % pSz x1 = 0 → R (some (.inl 1)) h)))))))) : ft_V k_FT_isPrefix 0 [some (.inl x0), some (.inl x1)] [] h R := by
  refine fv_iload_n (ft_d o_FT_isPrefix 0 rfl) rfl rfl ?_
  refine fv_if_lt (tgt := 27) (ft_d o_FT_isPrefix 1 rfl) rfl rfl (fun c => ?_) (fun c => ?_)
  · have w := w.1 c
    refine fv_iconst (ft_d o_FT_isPrefix 14 rfl) rfl rfl ?_
    exact fv_zreturn (ft_d o_FT_isPrefix 15 rfl) rfl (Or.inl rfl) w
  · have w := w.2 c
    refine fv_iload_n (ft_d o_FT_isPrefix 2 rfl) rfl rfl ?_
    refine fv_bipush (ft_d o_FT_isPrefix 3 rfl) rfl rfl ?_
    refine fv_icmp_gt (tgt := 27) (ft_d o_FT_isPrefix 4 rfl) rfl rfl (fun c => ?_) (fun c => ?_)
    · have w := w.1 c
      refine fv_iconst (ft_d o_FT_isPrefix 14 rfl) rfl rfl ?_
      exact fv_zreturn (ft_d o_FT_isPrefix 15 rfl) rfl (Or.inl rfl) w
    · have w := w.2 c
      refine fv_iload_n (ft_d o_FT_isPrefix 5 rfl) rfl rfl ?_
      refine fv_i2l (ft_d o_FT_isPrefix 6 rfl) rfl ?_
      refine fv_ldc2 (v := 4294967295) (z := 4294967295) (ft_d o_FT_isPrefix 7 rfl) rfl (ft_gt 778 (by decide +kernel) rfl) rfl ?_
      refine fv_land32 (ft_d o_FT_isPrefix 8 rfl) rfl ?_
      refine fv_iload_n (ft_d o_FT_isPrefix 9 rfl) rfl rfl ?_
      refine fv_callif (st := []) (z := (if (pUn x0) % pSz x1 = 0 then 1 else 0)) (Or.inr rfl) rfl (ft_mm (pre := [.inl x1, .inr (.inl (pUn x0))]) rfl) (ft_rnS (K' := k_FT_isAligned) (As := [.inr (.inl (pUn x0)), .inl x1]) (ft_d o_FT_isPrefix 10 rfl) ml_FT_347 lz_FT_isAligned rfl lw_FT_isAligned ⟨rfl, rfl, Nat.le_of_ble_eq_true rfl, Nat.le_of_ble_eq_true rfl⟩ rfl rfl (Nat.le_of_ble_eq_true rfl) (c_FT_isAligned w.1)) ?_
      have w := w.2
      refine fv_if_eq (tgt := 27) (ft_d o_FT_isPrefix 11 rfl) rfl rfl (fun c => ?_) (fun c => ?_)
      · have w := w.1 (ft_if0.mp c)
        refine fv_iconst (ft_d o_FT_isPrefix 14 rfl) rfl rfl ?_
        exact fv_zreturn (ft_d o_FT_isPrefix 15 rfl) rfl (Or.inl rfl) w
      · have w := w.2 (ft_if1.mp c)
        refine fv_iconst (ft_d o_FT_isPrefix 12 rfl) rfl rfl ?_
        refine fv_goto (pc' := 28) (ft_d o_FT_isPrefix 13 rfl) rfl ?_
        exact fv_zreturn (ft_d o_FT_isPrefix 15 rfl) rfl (Or.inr rfl) w
set_option maxRecDepth 20000 in
theorem b_FT_contains_0 {x0 : Int} {x2 : Int} {h : ftH} {R : Option ftV → ftH → Prop} 
    (w : ((0 ≤ x0) ∧ ((x2 < x0 / 64 → R (some (.inl 0)) h) ∧ (¬ (x2 < x0 / 64) → (((0 ≤ x0 ∧ x0 < 274877906944) ∧ x0 % 64 ≤ 32) ∧ ((x0 / 64 + pSz (x0 % 64) ≤ x2 → R (some (.inl 0)) h) ∧ (¬ (x0 / 64 + pSz (x0 % 64) ≤ x2) → R (some (.inl 1)) h))))))) : ft_V k_FT_contains 0 [some (.inr (.inl x0)), none, some (.inr (.inl x2)), none] [] h R := by
  refine fv_lload_n (ft_d o_FT_contains 0 rfl) rfl rfl ?_
  refine fv_calllf (st := []) (z := x0 / 64) rfl rfl (ft_mm (pre := [.inr (.inl x0)]) rfl) (ft_rnS (K' := k_FT_startOf) (As := [.inr (.inl x0)]) (ft_d o_FT_contains 1 rfl) ml_FT_244 lz_FT_startOf rfl lw_FT_startOf ⟨rfl, rfl, Nat.le_of_ble_eq_true rfl, Nat.le_of_ble_eq_true rfl⟩ rfl rfl (Nat.le_of_ble_eq_true rfl) (c_FT_startOf w.1)) ?_
  have w := w.2
  refine fv_lload_n (ft_d o_FT_contains 2 rfl) rfl rfl ?_
  refine fv_lcmp_gt (tgt := 22) (ft_d o_FT_contains 3 rfl) (ft_d o_FT_contains 4 rfl) rfl rfl (fun c => ?_) (fun c => ?_)
  · have w := w.1 c
    refine fv_iconst (ft_d o_FT_contains 12 rfl) rfl rfl ?_
    exact fv_zreturn (ft_d o_FT_contains 13 rfl) rfl (Or.inl rfl) w
  · have w := w.2 c
    refine fv_lload_n (ft_d o_FT_contains 5 rfl) rfl rfl ?_
    refine fv_lload_n (ft_d o_FT_contains 6 rfl) rfl rfl ?_
    refine fv_calllf (st := [.inr (.inl x2)]) (z := x0 / 64 + pSz (x0 % 64)) rfl rfl (ft_mm (pre := [.inr (.inl x0)]) rfl) (ft_rnS (K' := k_FT_endOf) (As := [.inr (.inl x0)]) (ft_d o_FT_contains 7 rfl) ml_FT_355 lz_FT_endOf rfl lw_FT_endOf ⟨rfl, rfl, Nat.le_of_ble_eq_true rfl, Nat.le_of_ble_eq_true rfl⟩ rfl rfl (Nat.le_of_ble_eq_true rfl) (c_FT_endOf w.1)) ?_
    have w := w.2
    refine fv_lcmp_ge (tgt := 22) (ft_d o_FT_contains 8 rfl) (ft_d o_FT_contains 9 rfl) rfl rfl (fun c => ?_) (fun c => ?_)
    · have w := w.1 c
      refine fv_iconst (ft_d o_FT_contains 12 rfl) rfl rfl ?_
      exact fv_zreturn (ft_d o_FT_contains 13 rfl) rfl (Or.inl rfl) w
    · have w := w.2 c
      refine fv_iconst (ft_d o_FT_contains 10 rfl) rfl rfl ?_
      refine fv_goto (pc' := 23) (ft_d o_FT_contains 11 rfl) rfl ?_
      exact fv_zreturn (ft_d o_FT_contains 13 rfl) rfl (Or.inr rfl) w
set_option maxRecDepth 20000 in
theorem b_Mo_contains_0 {x0 : Int} {x1 : Int} {x2 : Int} {h : ftH} {R : Option ftV → ftH → Prop} 
    (w : ((¬ (ft_and (ft_xor x0 x2) (m_mask x1) = 0) → R (some (.inl 0)) h) ∧ (ft_and (ft_xor x0 x2) (m_mask x1) = 0 → R (some (.inl 1)) h))) : ft_V k_Mo_contains 0 [some (.inl x0), some (.inl x1), some (.inl x2)] [] h R := by
  refine fv_iload_n (ft_d o_Mo_contains 0 rfl) rfl rfl ?_
  refine fv_iload_n (ft_d o_Mo_contains 1 rfl) rfl rfl ?_
  refine fv_ixor (ft_d o_Mo_contains 2 rfl) rfl ?_
  refine fv_iload_n (ft_d o_Mo_contains 3 rfl) rfl rfl ?_
  refine fv_callif (st := [.inl (ft_xor x0 x2)]) (z := m_mask x1) (Or.inl rfl) rfl (ft_mm (pre := [.inl x1]) rfl) (ft_rnS (K' := k_Mo_maskOf) (As := [.inl x1]) (ft_d o_Mo_contains 4 rfl) ml_Mo_94 lz_Mo_maskOf rfl lw_Mo_maskOf ⟨rfl, rfl, Nat.le_of_ble_eq_true rfl, Nat.le_of_ble_eq_true rfl⟩ rfl rfl (Nat.le_of_ble_eq_true rfl) (c_Mo_maskOf)) ?_
  refine fv_iand (ft_d o_Mo_contains 5 rfl) rfl ?_
  refine fv_if_ne (tgt := 15) (ft_d o_Mo_contains 6 rfl) rfl rfl (fun c => ?_) (fun c => ?_)
  · have w := w.1 c
    refine fv_iconst (ft_d o_Mo_contains 9 rfl) rfl rfl ?_
    exact fv_zreturn (ft_d o_Mo_contains 10 rfl) rfl (Or.inl rfl) w
  · have w := w.2 c
    refine fv_iconst (ft_d o_Mo_contains 7 rfl) rfl rfl ?_
    refine fv_goto (pc' := 16) (ft_d o_Mo_contains 8 rfl) rfl ?_
    exact fv_zreturn (ft_d o_Mo_contains 10 rfl) rfl (Or.inr rfl) w
set_option maxRecDepth 20000 in
theorem b_Mo_isAhead_0 {x0 : Int} {x1 : Int} {x2 : Int} {x3 : Int} {h : ftH} {R : Option ftV → ftH → Prop} 
    (w : ((¬ (x0 = x2) → ((pUn x2 ≤ pUn x0 → R (some (.inl 0)) h) ∧ (¬ (pUn x2 ≤ pUn x0) → R (some (.inl 1)) h))) ∧ (x0 = x2 → ((x3 ≤ x1 → R (some (.inl 0)) h) ∧ (¬ (x3 ≤ x1) → R (some (.inl 1)) h))))) : ft_V k_Mo_isAhead 0 [some (.inl x0), some (.inl x1), some (.inl x2), some (.inl x3)] [] h R := by
  refine fv_iload_n (ft_d o_Mo_isAhead 0 rfl) rfl rfl ?_
  refine fv_iload_n (ft_d o_Mo_isAhead 1 rfl) rfl rfl ?_
  refine fv_icmp_ne (tgt := 18) (ft_d o_Mo_isAhead 2 rfl) rfl rfl (fun c => ?_) (fun c => ?_)
  · have w := w.1 c
    refine fv_iload_n (ft_d o_Mo_isAhead 10 rfl) rfl rfl ?_
    refine fv_calllf (st := []) (z := pUn x0) rfl rfl (ft_mm (pre := [.inl x0]) rfl) (ft_rnS (K' := k_Mo_unsigned) (As := [.inl x0]) (ft_d o_Mo_isAhead 11 rfl) ml_Mo_100 lz_Mo_unsigned rfl lw_Mo_unsigned ⟨rfl, rfl, Nat.le_of_ble_eq_true rfl, Nat.le_of_ble_eq_true rfl⟩ rfl rfl (Nat.le_of_ble_eq_true rfl) (c_Mo_unsigned)) ?_
    refine fv_iload_n (ft_d o_Mo_isAhead 12 rfl) rfl rfl ?_
    refine fv_calllf (st := [.inr (.inl (pUn x0))]) (z := pUn x2) rfl rfl (ft_mm (pre := [.inl x2]) rfl) (ft_rnS (K' := k_Mo_unsigned) (As := [.inl x2]) (ft_d o_Mo_isAhead 13 rfl) ml_Mo_100 lz_Mo_unsigned rfl lw_Mo_unsigned ⟨rfl, rfl, Nat.le_of_ble_eq_true rfl, Nat.le_of_ble_eq_true rfl⟩ rfl rfl (Nat.le_of_ble_eq_true rfl) (c_Mo_unsigned)) ?_
    refine fv_lcmp_ge (tgt := 34) (ft_d o_Mo_isAhead 14 rfl) (ft_d o_Mo_isAhead 15 rfl) rfl rfl (fun c => ?_) (fun c => ?_)
    · have w := w.1 c
      refine fv_iconst (ft_d o_Mo_isAhead 18 rfl) rfl rfl ?_
      exact fv_zreturn (ft_d o_Mo_isAhead 19 rfl) rfl (Or.inl rfl) w
    · have w := w.2 c
      refine fv_iconst (ft_d o_Mo_isAhead 16 rfl) rfl rfl ?_
      refine fv_goto (pc' := 35) (ft_d o_Mo_isAhead 17 rfl) rfl ?_
      exact fv_zreturn (ft_d o_Mo_isAhead 19 rfl) rfl (Or.inr rfl) w
  · have w := w.2 c
    refine fv_iload_n (ft_d o_Mo_isAhead 3 rfl) rfl rfl ?_
    refine fv_iload_n (ft_d o_Mo_isAhead 4 rfl) rfl rfl ?_
    refine fv_icmp_ge (tgt := 14) (ft_d o_Mo_isAhead 5 rfl) rfl rfl (fun c => ?_) (fun c => ?_)
    · have w := w.1 c
      refine fv_iconst (ft_d o_Mo_isAhead 8 rfl) rfl rfl ?_
      refine fv_goto (pc' := 35) (ft_d o_Mo_isAhead 9 rfl) rfl ?_
      exact fv_zreturn (ft_d o_Mo_isAhead 19 rfl) rfl (Or.inl rfl) w
    · have w := w.2 c
      refine fv_iconst (ft_d o_Mo_isAhead 6 rfl) rfl rfl ?_
      refine fv_goto (pc' := 35) (ft_d o_Mo_isAhead 7 rfl) rfl ?_
      exact fv_zreturn (ft_d o_Mo_isAhead 19 rfl) rfl (Or.inr rfl) w
set_option maxRecDepth 20000 in
theorem b_Mo_isPrefix_0 {x0 : Int} {x1 : Int} {h : ftH} {R : Option ftV → ftH → Prop} 
    (w : ((¬ ((0 : Int) ≤ x1 ∧ x1 ≤ (32 : Int)) → R (some (.inl 0)) h) ∧ ((0 : Int) ≤ x1 ∧ x1 ≤ (32 : Int) → ((¬ (ft_and x0 (ft_xor (m_mask x1) ((-1))) = 0) → R (some (.inl 0)) h) ∧ (ft_and x0 (ft_xor (m_mask x1) ((-1))) = 0 → R (some (.inl 1)) h))))) : ft_V k_Mo_isPrefix 0 [some (.inl x0), some (.inl x1)] [] h R := by
  refine fv_iload_n (ft_d o_Mo_isPrefix 0 rfl) rfl rfl ?_
  refine fv_i2l (ft_d o_Mo_isPrefix 1 rfl) rfl ?_
  refine fv_lconst (z := 0) (ft_d o_Mo_isPrefix 2 rfl) rfl rfl ?_
  refine fv_ldc2 (v := 32) (z := 32) (ft_d o_Mo_isPrefix 3 rfl) rfl (ft_gt 1268 (by decide +kernel) rfl) rfl ?_
  refine fv_callif (st := []) (z := (if (0 : Int) ≤ x1 ∧ x1 ≤ (32 : Int) then 1 else 0)) (Or.inr rfl) rfl (ft_mm (pre := [.inr (.inl 32), .inr (.inl 0), .inr (.inl x1)]) rfl) (ft_rnS (K' := k_Mo_in) (As := [.inr (.inl x1), .inr (.inl 0), .inr (.inl 32)]) (ft_d o_Mo_isPrefix 4 rfl) ml_Mo_106 lz_Mo_in rfl lw_Mo_in ⟨rfl, rfl, Nat.le_of_ble_eq_true rfl, Nat.le_of_ble_eq_true rfl⟩ rfl rfl (Nat.le_of_ble_eq_true rfl) (c_Mo_in)) ?_
  refine fv_if_eq (tgt := 27) (ft_d o_Mo_isPrefix 5 rfl) rfl rfl (fun c => ?_) (fun c => ?_)
  · have w := w.1 (ft_if0.mp c)
    refine fv_iconst (ft_d o_Mo_isPrefix 15 rfl) rfl rfl ?_
    exact fv_zreturn (ft_d o_Mo_isPrefix 16 rfl) rfl (Or.inl rfl) w
  · have w := w.2 (ft_if1.mp c)
    refine fv_iload_n (ft_d o_Mo_isPrefix 6 rfl) rfl rfl ?_
    refine fv_iload_n (ft_d o_Mo_isPrefix 7 rfl) rfl rfl ?_
    refine fv_callif (st := [.inl x0]) (z := m_mask x1) (Or.inl rfl) rfl (ft_mm (pre := [.inl x1]) rfl) (ft_rnS (K' := k_Mo_maskOf) (As := [.inl x1]) (ft_d o_Mo_isPrefix 8 rfl) ml_Mo_94 lz_Mo_maskOf rfl lw_Mo_maskOf ⟨rfl, rfl, Nat.le_of_ble_eq_true rfl, Nat.le_of_ble_eq_true rfl⟩ rfl rfl (Nat.le_of_ble_eq_true rfl) (c_Mo_maskOf)) ?_
    refine fv_iconst (ft_d o_Mo_isPrefix 9 rfl) rfl rfl ?_
    refine fv_ixor (ft_d o_Mo_isPrefix 10 rfl) rfl ?_
    refine fv_iand (ft_d o_Mo_isPrefix 11 rfl) rfl ?_
    refine fv_if_ne (tgt := 27) (ft_d o_Mo_isPrefix 12 rfl) rfl rfl (fun c => ?_) (fun c => ?_)
    · have w := w.1 c
      refine fv_iconst (ft_d o_Mo_isPrefix 15 rfl) rfl rfl ?_
      exact fv_zreturn (ft_d o_Mo_isPrefix 16 rfl) rfl (Or.inl rfl) w
    · have w := w.2 c
      refine fv_iconst (ft_d o_Mo_isPrefix 13 rfl) rfl rfl ?_
      refine fv_goto (pc' := 28) (ft_d o_Mo_isPrefix 14 rfl) rfl ?_
      exact fv_zreturn (ft_d o_Mo_isPrefix 16 rfl) rfl (Or.inr rfl) w
set_option maxRecDepth 20000 in
theorem b_Mo_isRoute_0 {x1 : Int} {h : ftH} {R : Option ftV → ftH → Prop} 
    (w : R (some (.inl ((if (0 : Int) ≤ x1 ∧ x1 ≤ (ft_sub (h 310 0) 1) then 1 else 0)))) h) : ft_V k_Mo_isRoute 0 [some (.inr (.inr 309)), some (.inl x1)] [] h R := by
  refine fv_iload_n (ft_d o_Mo_isRoute 0 rfl) rfl rfl ?_
  refine fv_i2l (ft_d o_Mo_isRoute 1 rfl) rfl ?_
  refine fv_lconst (z := 0) (ft_d o_Mo_isRoute 2 rfl) rfl rfl ?_
  refine fv_aload_n (ft_d o_Mo_isRoute 3 rfl) rfl rfl ?_
  refine fv_getR (b := 310) (ft_d o_Mo_isRoute 4 rfl) rfl fl_Mo_13 sh_309 rfl ly_309_1 ?_
  refine fv_iconst (ft_d o_Mo_isRoute 5 rfl) rfl rfl ?_
  refine fv_ialdj (j := 0) (ft_d o_Mo_isRoute 6 rfl) rfl sh_310 ⟨by decide, by decide⟩ rfl ?_
  refine fv_iconst (ft_d o_Mo_isRoute 7 rfl) rfl rfl ?_
  refine fv_isub (ft_d o_Mo_isRoute 8 rfl) rfl ?_
  refine fv_i2l (ft_d o_Mo_isRoute 9 rfl) rfl ?_
  refine fv_callif (st := []) (z := (if (0 : Int) ≤ x1 ∧ x1 ≤ (ft_sub (h 310 0) 1) then 1 else 0)) (Or.inr rfl) rfl (ft_mm (pre := [.inr (.inl (ft_sub (h 310 0) 1)), .inr (.inl 0), .inr (.inl x1)]) rfl) (ft_rnS (K' := k_Mo_in) (As := [.inr (.inl x1), .inr (.inl 0), .inr (.inl (ft_sub (h 310 0) 1))]) (ft_d o_Mo_isRoute 10 rfl) ml_Mo_106 lz_Mo_in rfl lw_Mo_in ⟨rfl, rfl, Nat.le_of_ble_eq_true rfl, Nat.le_of_ble_eq_true rfl⟩ rfl rfl (Nat.le_of_ble_eq_true rfl) (c_Mo_in)) ?_
  exact fv_zreturn (ft_d o_Mo_isRoute 11 rfl) rfl ft_if01 w
set_option maxRecDepth 20000 in
theorem b_Ch_isKept_0 {x1 : Int} {h : ftH} {R : Option ftV → ftH → Prop} 
    (w : ((0 ≤ x1 ∧ x1 < 60) ∧ ((ft_andL (h 143 3) (2 ^ (59 - x1.toNat)) = 0 → R (some (.inl 0)) h) ∧ (¬ (ft_andL (h 143 3) (2 ^ (59 - x1.toNat)) = 0) → R (some (.inl 1)) h)))) : ft_V k_Ch_isKept 0 [some (.inr (.inr 143)), some (.inl x1)] [] h R := by
  refine fv_aload_n (ft_d o_Ch_isKept 0 rfl) rfl rfl ?_
  refine fv_getL (ft_d o_Ch_isKept 1 rfl) rfl fl_Ch_100 sh_143 rfl ?_
  refine fv_iload_n (ft_d o_Ch_isKept 2 rfl) rfl rfl ?_
  refine fv_calllf (st := [.inr (.inl (h 143 3))]) (z := 2 ^ (59 - x1.toNat)) rfl rfl (ft_mm (pre := [.inl x1]) rfl) (ft_rnS (K' := k_Ch_bitOf) (As := [.inl x1]) (ft_d o_Ch_isKept 3 rfl) ml_Ch_85 lz_Ch_bitOf rfl lw_Ch_bitOf ⟨rfl, rfl, Nat.le_of_ble_eq_true rfl, Nat.le_of_ble_eq_true rfl⟩ rfl rfl (Nat.le_of_ble_eq_true rfl) (c_Ch_bitOf w.1)) ?_
  have w := w.2
  refine fv_land (ft_d o_Ch_isKept 4 rfl) rfl ?_
  refine fv_lconst (z := 0) (ft_d o_Ch_isKept 5 rfl) rfl rfl ?_
  refine fv_lcmp_eq (tgt := 18) (ft_d o_Ch_isKept 6 rfl) (ft_d o_Ch_isKept 7 rfl) rfl rfl (fun c => ?_) (fun c => ?_)
  · have w := w.1 c
    refine fv_iconst (ft_d o_Ch_isKept 10 rfl) rfl rfl ?_
    exact fv_zreturn (ft_d o_Ch_isKept 11 rfl) rfl (Or.inl rfl) w
  · have w := w.2 c
    refine fv_iconst (ft_d o_Ch_isKept 8 rfl) rfl rfl ?_
    refine fv_goto (pc' := 19) (ft_d o_Ch_isKept 9 rfl) rfl ?_
    exact fv_zreturn (ft_d o_Ch_isKept 11 rfl) rfl (Or.inr rfl) w
set_option maxRecDepth 20000 in
theorem b_PS_tell_0 {r0 : Nat} {x1 : Int} {x2 : Int} {h : ftH} {R : Option ftV → ftH → Prop} (hr0 : ft_sh r0 = some (.inl 4))
    (w : ((¬ (x2 = 0) → ((¬ (x2 = 1) → ((0 ≤ x1 ∧ x1 < (ft_ln (r0 + 2))) ∧ R (some (.inr (.inl (h (r0 + 2) x1.toNat)))) h)) ∧ (x2 = 1 → ((0 ≤ x1 ∧ x1 < (ft_ln (r0 + 1))) ∧ ((0 ≤ (h (r0 + 1) x1.toNat)) ∧ R (some (.inr (.inl ((h (r0 + 1) x1.toNat) % 64)))) h))))) ∧ (x2 = 0 → ((0 ≤ x1 ∧ x1 < (ft_ln (r0 + 1))) ∧ ((0 ≤ (h (r0 + 1) x1.toNat)) ∧ R (some (.inr (.inl ((h (r0 + 1) x1.toNat) / 64)))) h))))) : ft_V k_PS_tell 0 [some (.inr (.inr r0)), some (.inl x1), some (.inl x2)] [] h R := by
  refine fv_iload_n (ft_d o_PS_tell 0 rfl) rfl rfl ?_
  refine fv_if_ne (tgt := 14) (ft_d o_PS_tell 1 rfl) rfl rfl (fun c => ?_) (fun c => ?_)
  · have w := w.1 c
    refine fv_iload_n (ft_d o_PS_tell 8 rfl) rfl rfl ?_
    refine fv_iconst (ft_d o_PS_tell 9 rfl) rfl rfl ?_
    refine fv_icmp_ne (tgt := 32) (ft_d o_PS_tell 10 rfl) rfl rfl (fun c => ?_) (fun c => ?_)
    · have w := w.1 c
      refine fv_aload_n (ft_d o_PS_tell 18 rfl) rfl rfl ?_
      refine fv_getR (b := r0 + 2) (ft_d o_PS_tell 19 rfl) rfl fl_PS_15 hr0 rfl (lyc_4_1 hr0) ?_
      refine fv_iload_n (ft_d o_PS_tell 20 rfl) rfl rfl ?_
      refine fv_iald (ft_d o_PS_tell 21 rfl) rfl (shc_4_1 hr0) w.1 ?_
      have w := w.2
      refine fv_i2l (ft_d o_PS_tell 22 rfl) rfl ?_
      exact fv_lreturn (ft_d o_PS_tell 23 rfl) rfl w
    · have w := w.2 c
      refine fv_aload_n (ft_d o_PS_tell 11 rfl) rfl rfl ?_
      refine fv_getR (b := r0 + 1) (ft_d o_PS_tell 12 rfl) rfl fl_PS_9 hr0 rfl (lyc_4_0 hr0) ?_
      refine fv_iload_n (ft_d o_PS_tell 13 rfl) rfl rfl ?_
      refine fv_lald (ft_d o_PS_tell 14 rfl) rfl (shc_4_0 hr0) w.1 ?_
      have w := w.2
      refine fv_callif (st := []) (z := (h (r0 + 1) x1.toNat) % 64) (Or.inl rfl) rfl (ft_mm (pre := [.inr (.inl (h (r0 + 1) x1.toNat))]) rfl) (ft_rnSN (K' := k_FT_lengthOf) (As := [.inr (.inl (h (r0 + 1) x1.toNat))]) (host := "ForwardingTable") (ft_d o_PS_tell 15 rfl) (by decide) lz_FT_lengthOf lw_FT_lengthOf ⟨rfl, rfl, Nat.le_of_ble_eq_true rfl, Nat.le_of_ble_eq_true rfl⟩ rfl rfl (Nat.le_of_ble_eq_true rfl) (c_FT_lengthOf w.1)) ?_
      have w := w.2
      refine fv_i2l (ft_d o_PS_tell 16 rfl) rfl ?_
      refine fv_goto (pc' := 39) (ft_d o_PS_tell 17 rfl) rfl ?_
      exact fv_lreturn (ft_d o_PS_tell 23 rfl) rfl w
  · have w := w.2 c
    refine fv_aload_n (ft_d o_PS_tell 2 rfl) rfl rfl ?_
    refine fv_getR (b := r0 + 1) (ft_d o_PS_tell 3 rfl) rfl fl_PS_9 hr0 rfl (lyc_4_0 hr0) ?_
    refine fv_iload_n (ft_d o_PS_tell 4 rfl) rfl rfl ?_
    refine fv_lald (ft_d o_PS_tell 5 rfl) rfl (shc_4_0 hr0) w.1 ?_
    have w := w.2
    refine fv_calllf (st := []) (z := (h (r0 + 1) x1.toNat) / 64) rfl rfl (ft_mm (pre := [.inr (.inl (h (r0 + 1) x1.toNat))]) rfl) (ft_rnSN (K' := k_FT_startOf) (As := [.inr (.inl (h (r0 + 1) x1.toNat))]) (host := "ForwardingTable") (ft_d o_PS_tell 6 rfl) (by decide) lz_FT_startOf lw_FT_startOf ⟨rfl, rfl, Nat.le_of_ble_eq_true rfl, Nat.le_of_ble_eq_true rfl⟩ rfl rfl (Nat.le_of_ble_eq_true rfl) (c_FT_startOf w.1)) ?_
    have w := w.2
    exact fv_lreturn (ft_d o_PS_tell 7 rfl) rfl w
