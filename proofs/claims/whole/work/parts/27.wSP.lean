/-! printed by wip/whole/gen/gen10.py: what must hold at each cut point -/
set_option maxRecDepth 20000 in
theorem b_Re_addPrefixes_0 {r1 : Nat} {h : ftH} {R : Option ftV → ftH → Prop} (hr1 : ft_sh r1 = some (.inl 4))
    (w : ft_V k_Re_addPrefixes 2 [some (.inr (.inr 294)), some (.inr (.inr r1)), some (.inl 0)] [] h R) : ft_V k_Re_addPrefixes 0 [some (.inr (.inr 294)), some (.inr (.inr r1)), none] [] h R := by
  refine fv_iconst (ft_d o_Re_addPrefixes 0 rfl) rfl rfl ?_
  refine fv_istore_n (L' := [some (.inr (.inr 294)), some (.inr (.inr r1)), some (.inl 0)]) (ft_d o_Re_addPrefixes 1 rfl) rfl (Nat.le_of_ble_eq_true rfl) rfl ?_
  exact w
set_option maxRecDepth 20000 in
theorem b_Re_addPrefixes_2 {r1 : Nat} {x2 : Int} {h : ftH} {R : Option ftV → ftH → Prop} (hr1 : ft_sh r1 = some (.inl 4))
    (w : ((h r1 2 ≤ x2 → R none h) ∧ (¬ (h r1 2 ≤ x2) → ((0 ≤ x2 ∧ x2 < (ft_ln (r1 + 1))) ∧ ((0 ≤ (h (r1 + 1) x2.toNat)) ∧ (∃ R3 : Option ftV → ftH → Prop, ft_C k_Re_addAddress [.inr (.inr 294), .inr (.inl ((h (r1 + 1) x2.toNat) / 64))] h R3 ∧ ∀ h1 : ftH, R3 none h1 → (∃ R5 : Option ftV → ftH → Prop, ft_C k_Re_addSign [.inr (.inr 294), .inl 47] h1 R5 ∧ ∀ h2 : ftH, R5 none h2 → ((0 ≤ x2 ∧ x2 < (ft_ln (r1 + 1))) ∧ ((0 ≤ (h2 (r1 + 1) x2.toNat)) ∧ (∃ R9 : Option ftV → ftH → Prop, ft_C k_Re_addNumber [.inr (.inr 294), .inl ((h2 (r1 + 1) x2.toNat) % 64)] h2 R9 ∧ ∀ h3 : ftH, R9 none h3 → (∃ R11 : Option ftV → ftH → Prop, ft_C k_Re_addSign [.inr (.inr 294), .inl 32] h3 R11 ∧ ∀ h4 : ftH, R11 none h4 → ((0 ≤ x2 ∧ x2 < (ft_ln (r1 + 2))) ∧ ((¬ (h4 (r1 + 2) x2.toNat = 16) → ((0 ≤ x2 ∧ x2 < (ft_ln (r1 + 2))) ∧ (∃ R13 : Option ftV → ftH → Prop, ft_C k_Re_addNumber [.inr (.inr 294), .inl (h4 (r1 + 2) x2.toNat)] h4 R13 ∧ ∀ h5 : ftH, R13 none h5 → (∃ R15 : Option ftV → ftH → Prop, ft_C k_Re_addSign [.inr (.inr 294), .inl 10] h5 R15 ∧ ∀ h6 : ftH, R15 none h6 → ft_V k_Re_addPrefixes 2 [some (.inr (.inr 294)), some (.inr (.inr r1)), some (.inl (ft_add x2 1))] [] h6 R)))) ∧ (h4 (r1 + 2) x2.toNat = 16 → (∃ R17 : Option ftV → ftH → Prop, ft_C k_Re_addSign [.inr (.inr 294), .inl 120] h4 R17 ∧ ∀ h7 : ftH, R17 none h7 → (∃ R19 : Option ftV → ftH → Prop, ft_C k_Re_addSign [.inr (.inr 294), .inl 10] h7 R19 ∧ ∀ h8 : ftH, R19 none h8 → ft_V k_Re_addPrefixes 2 [some (.inr (.inr 294)), some (.inr (.inr r1)), some (.inl (ft_add x2 1))] [] h8 R)))))))))))))))) : ft_V k_Re_addPrefixes 2 [some (.inr (.inr 294)), some (.inr (.inr r1)), some (.inl x2)] [] h R := by
  refine fv_iload_n (ft_d o_Re_addPrefixes 2 rfl) rfl rfl ?_
  refine fv_aload_n (ft_d o_Re_addPrefixes 3 rfl) rfl rfl ?_
  refine fv_getI (ft_d o_Re_addPrefixes 4 rfl) rfl fl_Re_19 hr1 rfl ?_
  refine fv_icmp_ge (tgt := 90) (ft_d o_Re_addPrefixes 5 rfl) rfl rfl (fun c => ?_) (fun c => ?_)
  · have w := w.1 c
    exact fv_return (ft_d o_Re_addPrefixes 47 rfl) rfl w
  · have w := w.2 c
    refine fv_aload_n (ft_d o_Re_addPrefixes 6 rfl) rfl rfl ?_
    refine fv_aload_n (ft_d o_Re_addPrefixes 7 rfl) rfl rfl ?_
    refine fv_getR (b := r1 + 1) (ft_d o_Re_addPrefixes 8 rfl) rfl fl_Re_24 hr1 rfl (lyc_4_0 hr1) ?_
    refine fv_iload_n (ft_d o_Re_addPrefixes 9 rfl) rfl rfl ?_
    refine fv_lald (ft_d o_Re_addPrefixes 10 rfl) rfl (shc_4_0 hr1) w.1 ?_
    have w := w.2
    refine fv_calllf (st := [.inr (.inr 294)]) (z := (h (r1 + 1) x2.toNat) / 64) rfl rfl (ft_mm (pre := [.inr (.inl (h (r1 + 1) x2.toNat))]) rfl) (ft_rnSN (K' := k_FT_startOf) (As := [.inr (.inl (h (r1 + 1) x2.toNat))]) (host := "ForwardingTable") (ft_d o_Re_addPrefixes 11 rfl) (by decide) lz_FT_startOf lw_FT_startOf ⟨rfl, rfl, Nat.le_of_ble_eq_true rfl, Nat.le_of_ble_eq_true rfl⟩ rfl rfl (Nat.le_of_ble_eq_true rfl) (c_FT_startOf w.1)) ?_
    have w := w.2
    obtain ⟨R3, c4, w⟩ := w
    refine fv_callv (st := []) rfl rfl (ft_mm (pre := [.inr (.inl ((h (r1 + 1) x2.toNat) / 64)), .inr (.inr 294)]) rfl) (ft_rnV (K' := k_Re_addAddress) (As := [.inr (.inl ((h (r1 + 1) x2.toNat) / 64))]) (ft_d o_Re_addPrefixes 12 rfl) ml_Re_32 li_Re_addAddress.1 li_Re_addAddress.2 lw_Re_addAddress ⟨rfl, rfl, Nat.le_of_ble_eq_true rfl, Nat.le_of_ble_eq_true rfl⟩ sh_294 rfl rfl rfl rfl (Nat.le_of_ble_eq_true rfl) c4) (fun h1 hw => ?_)
    have w := w h1 hw
    refine fv_aload_n (ft_d o_Re_addPrefixes 13 rfl) rfl rfl ?_
    refine fv_bipush (ft_d o_Re_addPrefixes 14 rfl) rfl rfl ?_
    obtain ⟨R5, c6, w⟩ := w
    refine fv_callv (st := []) rfl rfl (ft_mm (pre := [.inl 47, .inr (.inr 294)]) rfl) (ft_rnV (K' := k_Re_addSign) (As := [.inl 47]) (ft_d o_Re_addPrefixes 15 rfl) ml_Re_36 li_Re_addSign.1 li_Re_addSign.2 lw_Re_addSign ⟨rfl, rfl, Nat.le_of_ble_eq_true rfl, Nat.le_of_ble_eq_true rfl⟩ sh_294 rfl rfl rfl rfl (Nat.le_of_ble_eq_true rfl) c6) (fun h2 hw => ?_)
    have w := w h2 hw
    refine fv_aload_n (ft_d o_Re_addPrefixes 16 rfl) rfl rfl ?_
    refine fv_aload_n (ft_d o_Re_addPrefixes 17 rfl) rfl rfl ?_
    refine fv_getR (b := r1 + 1) (ft_d o_Re_addPrefixes 18 rfl) rfl fl_Re_24 hr1 rfl (lyc_4_0 hr1) ?_
    refine fv_iload_n (ft_d o_Re_addPrefixes 19 rfl) rfl rfl ?_
    refine fv_lald (ft_d o_Re_addPrefixes 20 rfl) rfl (shc_4_0 hr1) w.1 ?_
    have w := w.2
    refine fv_callif (st := [.inr (.inr 294)]) (z := (h2 (r1 + 1) x2.toNat) % 64) (Or.inl rfl) rfl (ft_mm (pre := [.inr (.inl (h2 (r1 + 1) x2.toNat))]) rfl) (ft_rnSN (K' := k_FT_lengthOf) (As := [.inr (.inl (h2 (r1 + 1) x2.toNat))]) (host := "ForwardingTable") (ft_d o_Re_addPrefixes 21 rfl) (by decide) lz_FT_lengthOf lw_FT_lengthOf ⟨rfl, rfl, Nat.le_of_ble_eq_true rfl, Nat.le_of_ble_eq_true rfl⟩ rfl rfl (Nat.le_of_ble_eq_true rfl) (c_FT_lengthOf w.1)) ?_
    have w := w.2
    obtain ⟨R9, c10, w⟩ := w
    refine fv_callv (st := []) rfl rfl (ft_mm (pre := [.inl ((h2 (r1 + 1) x2.toNat) % 64), .inr (.inr 294)]) rfl) (ft_rnV (K' := k_Re_addNumber) (As := [.inl ((h2 (r1 + 1) x2.toNat) % 64)]) (ft_d o_Re_addPrefixes 22 rfl) ml_Re_44 li_Re_addNumber.1 li_Re_addNumber.2 lw_Re_addNumber ⟨rfl, rfl, Nat.le_of_ble_eq_true rfl, Nat.le_of_ble_eq_true rfl⟩ sh_294 rfl rfl rfl rfl (Nat.le_of_ble_eq_true rfl) c10) (fun h3 hw => ?_)
    have w := w h3 hw
    refine fv_aload_n (ft_d o_Re_addPrefixes 23 rfl) rfl rfl ?_
    refine fv_bipush (ft_d o_Re_addPrefixes 24 rfl) rfl rfl ?_
    obtain ⟨R11, c12, w⟩ := w
    refine fv_callv (st := []) rfl rfl (ft_mm (pre := [.inl 32, .inr (.inr 294)]) rfl) (ft_rnV (K' := k_Re_addSign) (As := [.inl 32]) (ft_d o_Re_addPrefixes 25 rfl) ml_Re_36 li_Re_addSign.1 li_Re_addSign.2 lw_Re_addSign ⟨rfl, rfl, Nat.le_of_ble_eq_true rfl, Nat.le_of_ble_eq_true rfl⟩ sh_294 rfl rfl rfl rfl (Nat.le_of_ble_eq_true rfl) c12) (fun h4 hw => ?_)
    have w := w h4 hw
    refine fv_aload_n (ft_d o_Re_addPrefixes 26 rfl) rfl rfl ?_
    refine fv_getR (b := r1 + 2) (ft_d o_Re_addPrefixes 27 rfl) rfl fl_Re_47 hr1 rfl (lyc_4_1 hr1) ?_
    refine fv_iload_n (ft_d o_Re_addPrefixes 28 rfl) rfl rfl ?_
    refine fv_iald (ft_d o_Re_addPrefixes 29 rfl) rfl (shc_4_1 hr1) w.1 ?_
    have w := w.2
    refine fv_bipush (ft_d o_Re_addPrefixes 30 rfl) rfl rfl ?_
    refine fv_icmp_ne (tgt := 68) (ft_d o_Re_addPrefixes 31 rfl) rfl rfl (fun c => ?_) (fun c => ?_)
    · have w := w.1 c
      refine fv_aload_n (ft_d o_Re_addPrefixes 36 rfl) rfl rfl ?_
      refine fv_aload_n (ft_d o_Re_addPrefixes 37 rfl) rfl rfl ?_
      refine fv_getR (b := r1 + 2) (ft_d o_Re_addPrefixes 38 rfl) rfl fl_Re_47 hr1 rfl (lyc_4_1 hr1) ?_
      refine fv_iload_n (ft_d o_Re_addPrefixes 39 rfl) rfl rfl ?_
      refine fv_iald (ft_d o_Re_addPrefixes 40 rfl) rfl (shc_4_1 hr1) w.1 ?_
      have w := w.2
      obtain ⟨R13, c14, w⟩ := w
      refine fv_callv (st := []) rfl rfl (ft_mm (pre := [.inl (h4 (r1 + 2) x2.toNat), .inr (.inr 294)]) rfl) (ft_rnV (K' := k_Re_addNumber) (As := [.inl (h4 (r1 + 2) x2.toNat)]) (ft_d o_Re_addPrefixes 41 rfl) ml_Re_44 li_Re_addNumber.1 li_Re_addNumber.2 lw_Re_addNumber ⟨rfl, rfl, Nat.le_of_ble_eq_true rfl, Nat.le_of_ble_eq_true rfl⟩ sh_294 rfl rfl rfl rfl (Nat.le_of_ble_eq_true rfl) c14) (fun h5 hw => ?_)
      have w := w h5 hw
      refine fv_aload_n (ft_d o_Re_addPrefixes 42 rfl) rfl rfl ?_
      refine fv_bipush (ft_d o_Re_addPrefixes 43 rfl) rfl rfl ?_
      obtain ⟨R15, c16, w⟩ := w
      refine fv_callv (st := []) rfl rfl (ft_mm (pre := [.inl 10, .inr (.inr 294)]) rfl) (ft_rnV (K' := k_Re_addSign) (As := [.inl 10]) (ft_d o_Re_addPrefixes 44 rfl) ml_Re_36 li_Re_addSign.1 li_Re_addSign.2 lw_Re_addSign ⟨rfl, rfl, Nat.le_of_ble_eq_true rfl, Nat.le_of_ble_eq_true rfl⟩ sh_294 rfl rfl rfl rfl (Nat.le_of_ble_eq_true rfl) c16) (fun h6 hw => ?_)
      have w := w h6 hw
      refine fv_iinc (L' := [some (.inr (.inr 294)), some (.inr (.inr r1)), some (.inl (ft_add x2 1))]) (ft_d o_Re_addPrefixes 45 rfl) rfl rfl (Nat.le_of_ble_eq_true rfl) rfl ?_
      refine fv_goto (pc' := 2) (ft_d o_Re_addPrefixes 46 rfl) rfl ?_
      exact w
    · have w := w.2 c
      refine fv_aload_n (ft_d o_Re_addPrefixes 32 rfl) rfl rfl ?_
      refine fv_bipush (ft_d o_Re_addPrefixes 33 rfl) rfl rfl ?_
      obtain ⟨R17, c18, w⟩ := w
      refine fv_callv (st := []) rfl rfl (ft_mm (pre := [.inl 120, .inr (.inr 294)]) rfl) (ft_rnV (K' := k_Re_addSign) (As := [.inl 120]) (ft_d o_Re_addPrefixes 34 rfl) ml_Re_36 li_Re_addSign.1 li_Re_addSign.2 lw_Re_addSign ⟨rfl, rfl, Nat.le_of_ble_eq_true rfl, Nat.le_of_ble_eq_true rfl⟩ sh_294 rfl rfl rfl rfl (Nat.le_of_ble_eq_true rfl) c18) (fun h7 hw => ?_)
      have w := w h7 hw
      refine fv_goto (pc' := 78) (ft_d o_Re_addPrefixes 35 rfl) rfl ?_
      refine fv_aload_n (ft_d o_Re_addPrefixes 42 rfl) rfl rfl ?_
      refine fv_bipush (ft_d o_Re_addPrefixes 43 rfl) rfl rfl ?_
      obtain ⟨R19, c20, w⟩ := w
      refine fv_callv (st := []) rfl rfl (ft_mm (pre := [.inl 10, .inr (.inr 294)]) rfl) (ft_rnV (K' := k_Re_addSign) (As := [.inl 10]) (ft_d o_Re_addPrefixes 44 rfl) ml_Re_36 li_Re_addSign.1 li_Re_addSign.2 lw_Re_addSign ⟨rfl, rfl, Nat.le_of_ble_eq_true rfl, Nat.le_of_ble_eq_true rfl⟩ sh_294 rfl rfl rfl rfl (Nat.le_of_ble_eq_true rfl) c20) (fun h8 hw => ?_)
      have w := w h8 hw
      refine fv_iinc (L' := [some (.inr (.inr 294)), some (.inr (.inr r1)), some (.inl (ft_add x2 1))]) (ft_d o_Re_addPrefixes 45 rfl) rfl rfl (Nat.le_of_ble_eq_true rfl) rfl ?_
      refine fv_goto (pc' := 2) (ft_d o_Re_addPrefixes 46 rfl) rfl ?_
      exact w
set_option maxRecDepth 20000 in
theorem b_Re_addTraffic_0 {r1 : Nat} {h : ftH} {R : Option ftV → ftH → Prop} (hr1 : ft_sh r1 = some (.inl 9))
    (w : ft_V k_Re_addTraffic 2 [some (.inr (.inr 294)), some (.inr (.inr r1)), some (.inl 0)] [] h R) : ft_V k_Re_addTraffic 0 [some (.inr (.inr 294)), some (.inr (.inr r1)), none] [] h R := by
  refine fv_iconst (ft_d o_Re_addTraffic 0 rfl) rfl rfl ?_
  refine fv_istore_n (L' := [some (.inr (.inr 294)), some (.inr (.inr r1)), some (.inl 0)]) (ft_d o_Re_addTraffic 1 rfl) rfl (Nat.le_of_ble_eq_true rfl) rfl ?_
  exact w
set_option maxRecDepth 20000 in
theorem b_Re_addTraffic_2 {r1 : Nat} {x2 : Int} {h : ftH} {R : Option ftV → ftH → Prop} (hr1 : ft_sh r1 = some (.inl 9))
    (w : ((h r1 2 ≤ x2 → R none h) ∧ (¬ (h r1 2 ≤ x2) → ((0 ≤ x2 ∧ x2 < 40) ∧ (∃ R1 : Option ftV → ftH → Prop, ft_C k_Re_addAddress [.inr (.inr 294), .inr (.inl (h (r1 + 1) x2.toNat))] h R1 ∧ ∀ h1 : ftH, R1 none h1 → (∃ R3 : Option ftV → ftH → Prop, ft_C k_Re_addSign [.inr (.inr 294), .inl 32] h1 R3 ∧ ∀ h2 : ftH, R3 none h2 → ((0 ≤ x2 ∧ x2 < 40) ∧ (∃ R5 : Option ftV → ftH → Prop, ft_C k_Re_addNumber [.inr (.inr 294), .inl (h2 (r1 + 2) x2.toNat)] h2 R5 ∧ ∀ h3 : ftH, R5 none h3 → (∃ R7 : Option ftV → ftH → Prop, ft_C k_Re_addSign [.inr (.inr 294), .inl 10] h3 R7 ∧ ∀ h4 : ftH, R7 none h4 → ft_V k_Re_addTraffic 2 [some (.inr (.inr 294)), some (.inr (.inr r1)), some (.inl (ft_add x2 1))] [] h4 R))))))))) : ft_V k_Re_addTraffic 2 [some (.inr (.inr 294)), some (.inr (.inr r1)), some (.inl x2)] [] h R := by
  refine fv_iload_n (ft_d o_Re_addTraffic 2 rfl) rfl rfl ?_
  refine fv_aload_n (ft_d o_Re_addTraffic 3 rfl) rfl rfl ?_
  refine fv_getI (ft_d o_Re_addTraffic 4 rfl) rfl fl_Re_51 hr1 rfl ?_
  refine fv_icmp_ge (tgt := 48) (ft_d o_Re_addTraffic 5 rfl) rfl rfl (fun c => ?_) (fun c => ?_)
  · have w := w.1 c
    exact fv_return (ft_d o_Re_addTraffic 26 rfl) rfl w
  · have w := w.2 c
    refine fv_aload_n (ft_d o_Re_addTraffic 6 rfl) rfl rfl ?_
    refine fv_aload_n (ft_d o_Re_addTraffic 7 rfl) rfl rfl ?_
    refine fv_getR (b := r1 + 1) (ft_d o_Re_addTraffic 8 rfl) rfl fl_Re_54 hr1 rfl (lyc_9_0 hr1) ?_
    refine fv_iload_n (ft_d o_Re_addTraffic 9 rfl) rfl rfl ?_
    refine fv_lald (ft_d o_Re_addTraffic 10 rfl) rfl (shc_9_0 hr1) w.1 ?_
    have w := w.2
    obtain ⟨R1, c2, w⟩ := w
    refine fv_callv (st := []) rfl rfl (ft_mm (pre := [.inr (.inl (h (r1 + 1) x2.toNat)), .inr (.inr 294)]) rfl) (ft_rnV (K' := k_Re_addAddress) (As := [.inr (.inl (h (r1 + 1) x2.toNat))]) (ft_d o_Re_addTraffic 11 rfl) ml_Re_32 li_Re_addAddress.1 li_Re_addAddress.2 lw_Re_addAddress ⟨rfl, rfl, Nat.le_of_ble_eq_true rfl, Nat.le_of_ble_eq_true rfl⟩ sh_294 rfl rfl rfl rfl (Nat.le_of_ble_eq_true rfl) c2) (fun h1 hw => ?_)
    have w := w h1 hw
    refine fv_aload_n (ft_d o_Re_addTraffic 12 rfl) rfl rfl ?_
    refine fv_bipush (ft_d o_Re_addTraffic 13 rfl) rfl rfl ?_
    obtain ⟨R3, c4, w⟩ := w
    refine fv_callv (st := []) rfl rfl (ft_mm (pre := [.inl 32, .inr (.inr 294)]) rfl) (ft_rnV (K' := k_Re_addSign) (As := [.inl 32]) (ft_d o_Re_addTraffic 14 rfl) ml_Re_36 li_Re_addSign.1 li_Re_addSign.2 lw_Re_addSign ⟨rfl, rfl, Nat.le_of_ble_eq_true rfl, Nat.le_of_ble_eq_true rfl⟩ sh_294 rfl rfl rfl rfl (Nat.le_of_ble_eq_true rfl) c4) (fun h2 hw => ?_)
    have w := w h2 hw
    refine fv_aload_n (ft_d o_Re_addTraffic 15 rfl) rfl rfl ?_
    refine fv_aload_n (ft_d o_Re_addTraffic 16 rfl) rfl rfl ?_
    refine fv_getR (b := r1 + 2) (ft_d o_Re_addTraffic 17 rfl) rfl fl_Re_57 hr1 rfl (lyc_9_1 hr1) ?_
    refine fv_iload_n (ft_d o_Re_addTraffic 18 rfl) rfl rfl ?_
    refine fv_iald (ft_d o_Re_addTraffic 19 rfl) rfl (shc_9_1 hr1) w.1 ?_
    have w := w.2
    obtain ⟨R5, c6, w⟩ := w
    refine fv_callv (st := []) rfl rfl (ft_mm (pre := [.inl (h2 (r1 + 2) x2.toNat), .inr (.inr 294)]) rfl) (ft_rnV (K' := k_Re_addNumber) (As := [.inl (h2 (r1 + 2) x2.toNat)]) (ft_d o_Re_addTraffic 20 rfl) ml_Re_44 li_Re_addNumber.1 li_Re_addNumber.2 lw_Re_addNumber ⟨rfl, rfl, Nat.le_of_ble_eq_true rfl, Nat.le_of_ble_eq_true rfl⟩ sh_294 rfl rfl rfl rfl (Nat.le_of_ble_eq_true rfl) c6) (fun h3 hw => ?_)
    have w := w h3 hw
    refine fv_aload_n (ft_d o_Re_addTraffic 21 rfl) rfl rfl ?_
    refine fv_bipush (ft_d o_Re_addTraffic 22 rfl) rfl rfl ?_
    obtain ⟨R7, c8, w⟩ := w
    refine fv_callv (st := []) rfl rfl (ft_mm (pre := [.inl 10, .inr (.inr 294)]) rfl) (ft_rnV (K' := k_Re_addSign) (As := [.inl 10]) (ft_d o_Re_addTraffic 23 rfl) ml_Re_36 li_Re_addSign.1 li_Re_addSign.2 lw_Re_addSign ⟨rfl, rfl, Nat.le_of_ble_eq_true rfl, Nat.le_of_ble_eq_true rfl⟩ sh_294 rfl rfl rfl rfl (Nat.le_of_ble_eq_true rfl) c8) (fun h4 hw => ?_)
    have w := w h4 hw
    refine fv_iinc (L' := [some (.inr (.inr 294)), some (.inr (.inr r1)), some (.inl (ft_add x2 1))]) (ft_d o_Re_addTraffic 24 rfl) rfl rfl (Nat.le_of_ble_eq_true rfl) rfl ?_
    refine fv_goto (pc' := 2) (ft_d o_Re_addTraffic 25 rfl) rfl ?_
    exact w
set_option maxRecDepth 20000 in
theorem b_Re_addAddress_0 {x1 : Int} {h : ftH} {R : Option ftV → ftH → Prop} 
    (w : ft_V k_Re_addAddress 3 [some (.inr (.inr 294)), some (.inr (.inl x1)), none, some (.inl 24)] [] h R) : ft_V k_Re_addAddress 0 [some (.inr (.inr 294)), some (.inr (.inl x1)), none, none] [] h R := by
  refine fv_bipush (ft_d o_Re_addAddress 0 rfl) rfl rfl ?_
  refine fv_istore_n (L' := [some (.inr (.inr 294)), some (.inr (.inl x1)), none, some (.inl 24)]) (ft_d o_Re_addAddress 1 rfl) rfl (Nat.le_of_ble_eq_true rfl) rfl ?_
  exact w
set_option maxRecDepth 20000 in
theorem b_Re_addAddress_3 {x1 : Int} {x3 : Int} {h : ftH} {R : Option ftV → ftH → Prop} 
    (w : ((x3 < 0 → R none h) ∧ (¬ (x3 < 0) → (∃ R1 : Option ftV → ftH → Prop, ft_C k_Re_addNumber [.inr (.inr 294), .inl (ft_l2i (ft_andL (ft_ushrL x1 x3) 255))] h R1 ∧ ∀ h1 : ftH, R1 none h1 → ((x3 ≤ 0 → ft_V k_Re_addAddress 3 [some (.inr (.inr 294)), some (.inr (.inl x1)), none, some (.inl (ft_add x3 (-8)))] [] h1 R) ∧ (¬ (x3 ≤ 0) → (∃ R3 : Option ftV → ftH → Prop, ft_C k_Re_addSign [.inr (.inr 294), .inl 46] h1 R3 ∧ ∀ h2 : ftH, R3 none h2 → ft_V k_Re_addAddress 3 [some (.inr (.inr 294)), some (.inr (.inl x1)), none, some (.inl (ft_add x3 (-8)))] [] h2 R))))))) : ft_V k_Re_addAddress 3 [some (.inr (.inr 294)), some (.inr (.inl x1)), none, some (.inl x3)] [] h R := by
  refine fv_iload_n (ft_d o_Re_addAddress 2 rfl) rfl rfl ?_
  refine fv_if_lt (tgt := 35) (ft_d o_Re_addAddress 3 rfl) rfl rfl (fun c => ?_) (fun c => ?_)
  · have w := w.1 c
    exact fv_return (ft_d o_Re_addAddress 19 rfl) rfl w
  · have w := w.2 c
    refine fv_aload_n (ft_d o_Re_addAddress 4 rfl) rfl rfl ?_
    refine fv_lload_n (ft_d o_Re_addAddress 5 rfl) rfl rfl ?_
    refine fv_iload_n (ft_d o_Re_addAddress 6 rfl) rfl rfl ?_
    refine fv_lushr (ft_d o_Re_addAddress 7 rfl) rfl ?_
    refine fv_ldc2 (v := 255) (z := 255) (ft_d o_Re_addAddress 8 rfl) rfl (ft_gt 1022 (by decide +kernel) rfl) rfl ?_
    refine fv_land (ft_d o_Re_addAddress 9 rfl) rfl ?_
    refine fv_l2i (ft_d o_Re_addAddress 10 rfl) rfl ?_
    obtain ⟨R1, c2, w⟩ := w
    refine fv_callv (st := []) rfl rfl (ft_mm (pre := [.inl (ft_l2i (ft_andL (ft_ushrL x1 x3) 255)), .inr (.inr 294)]) rfl) (ft_rnV (K' := k_Re_addNumber) (As := [.inl (ft_l2i (ft_andL (ft_ushrL x1 x3) 255))]) (ft_d o_Re_addAddress 11 rfl) ml_Re_44 li_Re_addNumber.1 li_Re_addNumber.2 lw_Re_addNumber ⟨rfl, rfl, Nat.le_of_ble_eq_true rfl, Nat.le_of_ble_eq_true rfl⟩ sh_294 rfl rfl rfl rfl (Nat.le_of_ble_eq_true rfl) c2) (fun h1 hw => ?_)
    have w := w h1 hw
    refine fv_iload_n (ft_d o_Re_addAddress 12 rfl) rfl rfl ?_
    refine fv_if_le (tgt := 29) (ft_d o_Re_addAddress 13 rfl) rfl rfl (fun c => ?_) (fun c => ?_)
    · have w := w.1 c
      refine fv_iinc (L' := [some (.inr (.inr 294)), some (.inr (.inl x1)), none, some (.inl (ft_add x3 (-8)))]) (ft_d o_Re_addAddress 17 rfl) rfl rfl (Nat.le_of_ble_eq_true rfl) rfl ?_
      refine fv_goto (pc' := 3) (ft_d o_Re_addAddress 18 rfl) rfl ?_
      exact w
    · have w := w.2 c
      refine fv_aload_n (ft_d o_Re_addAddress 14 rfl) rfl rfl ?_
      refine fv_bipush (ft_d o_Re_addAddress 15 rfl) rfl rfl ?_
      obtain ⟨R3, c4, w⟩ := w
      refine fv_callv (st := []) rfl rfl (ft_mm (pre := [.inl 46, .inr (.inr 294)]) rfl) (ft_rnV (K' := k_Re_addSign) (As := [.inl 46]) (ft_d o_Re_addAddress 16 rfl) ml_Re_36 li_Re_addSign.1 li_Re_addSign.2 lw_Re_addSign ⟨rfl, rfl, Nat.le_of_ble_eq_true rfl, Nat.le_of_ble_eq_true rfl⟩ sh_294 rfl rfl rfl rfl (Nat.le_of_ble_eq_true rfl) c4) (fun h2 hw => ?_)
      have w := w h2 hw
      refine fv_iinc (L' := [some (.inr (.inr 294)), some (.inr (.inl x1)), none, some (.inl (ft_add x3 (-8)))]) (ft_d o_Re_addAddress 17 rfl) rfl rfl (Nat.le_of_ble_eq_true rfl) rfl ?_
      refine fv_goto (pc' := 3) (ft_d o_Re_addAddress 18 rfl) rfl ?_
      exact w
set_option maxRecDepth 20000 in
theorem b_Re_addNumber_0 {x1 : Int} {h : ftH} {R : Option ftV → ftH → Prop} 
    (w : ft_V k_Re_addNumber 2 [some (.inr (.inr 294)), some (.inl x1), some (.inl 1)] [] h R) : ft_V k_Re_addNumber 0 [some (.inr (.inr 294)), some (.inl x1), none] [] h R := by
  refine fv_iconst (ft_d o_Re_addNumber 0 rfl) rfl rfl ?_
  refine fv_istore_n (L' := [some (.inr (.inr 294)), some (.inl x1), some (.inl 1)]) (ft_d o_Re_addNumber 1 rfl) rfl (Nat.le_of_ble_eq_true rfl) rfl ?_
  exact w
set_option maxRecDepth 20000 in
theorem b_Re_addNumber_2 {x1 : Int} {x2 : Int} {h : ftH} {R : Option ftV → ftH → Prop} 
    (w : ((100000 ≤ x2 → ft_V k_Re_addNumber 24 [some (.inr (.inr 294)), some (.inl x1), some (.inl x2)] [] h R) ∧ (¬ (100000 ≤ x2) → (¬ x2 = 0) ∧ (((ft_div x1 x2 < 10 → ft_V k_Re_addNumber 24 [some (.inr (.inr 294)), some (.inl x1), some (.inl x2)] [] h R) ∧ (¬ (ft_div x1 x2 < 10) → (∀ n1 : Int, n1 = ft_mul x2 10 → ft_V k_Re_addNumber 2 [some (.inr (.inr 294)), some (.inl x1), some (.inl n1)] [] h R))))))) : ft_V k_Re_addNumber 2 [some (.inr (.inr 294)), some (.inl x1), some (.inl x2)] [] h R := by
  refine fv_iload_n (ft_d o_Re_addNumber 2 rfl) rfl rfl ?_
  refine fv_ldc (v := 100000) (z := 100000) (ft_d o_Re_addNumber 3 rfl) rfl (ft_gt 1027 (by decide +kernel) rfl) rfl ?_
  refine fv_icmp_ge (tgt := 24) (ft_d o_Re_addNumber 4 rfl) rfl rfl (fun c => ?_) (fun c => ?_)
  · have w := w.1 c
    exact w
  · have w := w.2 c
    refine fv_iload_n (ft_d o_Re_addNumber 5 rfl) rfl rfl ?_
    refine fv_iload_n (ft_d o_Re_addNumber 6 rfl) rfl rfl ?_
    refine fv_idiv (ft_d o_Re_addNumber 7 rfl) rfl w.1 ?_
    have w := w.2
    refine fv_bipush (ft_d o_Re_addNumber 8 rfl) rfl rfl ?_
    refine fv_icmp_lt (tgt := 24) (ft_d o_Re_addNumber 9 rfl) rfl rfl (fun c => ?_) (fun c => ?_)
    · have w := w.1 c
      exact w
    · have w := w.2 c
      refine fv_iload_n (ft_d o_Re_addNumber 10 rfl) rfl rfl ?_
      refine fv_bipush (ft_d o_Re_addNumber 11 rfl) rfl rfl ?_
      refine fv_imul (ft_d o_Re_addNumber 12 rfl) rfl ?_
      generalize en1 : ft_mul x2 10 = n1
      have w := w n1 en1.symm
      refine fv_istore_n (L' := [some (.inr (.inr 294)), some (.inl x1), some (.inl n1)]) (ft_d o_Re_addNumber 13 rfl) rfl (Nat.le_of_ble_eq_true rfl) rfl ?_
      refine fv_goto (pc' := 2) (ft_d o_Re_addNumber 14 rfl) rfl ?_
      exact w
set_option maxRecDepth 20000 in
theorem b_Re_addNumber_24 {x1 : Int} {x2 : Int} {h : ftH} {R : Option ftV → ftH → Prop} 
    (w : ((x2 ≤ 0 → R none h) ∧ (¬ (x2 ≤ 0) → (¬ x2 = 0) ∧ ((∃ R1 : Option ftV → ftH → Prop, ft_C k_Re_addSign [.inr (.inr 294), .inl (ft_add 48 (ft_rem (ft_div x1 x2) 10))] h R1 ∧ ∀ h1 : ftH, R1 none h1 → (∀ n3 : Int, n3 = ft_div x2 10 → ft_V k_Re_addNumber 24 [some (.inr (.inr 294)), some (.inl x1), some (.inl n3)] [] h1 R)))))) : ft_V k_Re_addNumber 24 [some (.inr (.inr 294)), some (.inl x1), some (.inl x2)] [] h R := by
  refine fv_iload_n (ft_d o_Re_addNumber 15 rfl) rfl rfl ?_
  refine fv_if_le (tgt := 49) (ft_d o_Re_addNumber 16 rfl) rfl rfl (fun c => ?_) (fun c => ?_)
  · have w := w.1 c
    exact fv_return (ft_d o_Re_addNumber 31 rfl) rfl w
  · have w := w.2 c
    refine fv_aload_n (ft_d o_Re_addNumber 17 rfl) rfl rfl ?_
    refine fv_bipush (ft_d o_Re_addNumber 18 rfl) rfl rfl ?_
    refine fv_iload_n (ft_d o_Re_addNumber 19 rfl) rfl rfl ?_
    refine fv_iload_n (ft_d o_Re_addNumber 20 rfl) rfl rfl ?_
    refine fv_idiv (ft_d o_Re_addNumber 21 rfl) rfl w.1 ?_
    have w := w.2
    refine fv_bipush (ft_d o_Re_addNumber 22 rfl) rfl rfl ?_
    refine fv_irem (ft_d o_Re_addNumber 23 rfl) rfl (by decide) ?_
    refine fv_iadd (ft_d o_Re_addNumber 24 rfl) rfl ?_
    obtain ⟨R1, c2, w⟩ := w
    refine fv_callv (st := []) rfl rfl (ft_mm (pre := [.inl (ft_add 48 (ft_rem (ft_div x1 x2) 10)), .inr (.inr 294)]) rfl) (ft_rnV (K' := k_Re_addSign) (As := [.inl (ft_add 48 (ft_rem (ft_div x1 x2) 10))]) (ft_d o_Re_addNumber 25 rfl) ml_Re_36 li_Re_addSign.1 li_Re_addSign.2 lw_Re_addSign ⟨rfl, rfl, Nat.le_of_ble_eq_true rfl, Nat.le_of_ble_eq_true rfl⟩ sh_294 rfl rfl rfl rfl (Nat.le_of_ble_eq_true rfl) c2) (fun h1 hw => ?_)
    have w := w h1 hw
    refine fv_iload_n (ft_d o_Re_addNumber 26 rfl) rfl rfl ?_
    refine fv_bipush (ft_d o_Re_addNumber 27 rfl) rfl rfl ?_
    refine fv_idiv (ft_d o_Re_addNumber 28 rfl) rfl (by decide) ?_
    generalize en3 : ft_div x2 10 = n3
    have w := w n3 en3.symm
    refine fv_istore_n (L' := [some (.inr (.inr 294)), some (.inl x1), some (.inl n3)]) (ft_d o_Re_addNumber 29 rfl) rfl (Nat.le_of_ble_eq_true rfl) rfl ?_
    refine fv_goto (pc' := 24) (ft_d o_Re_addNumber 30 rfl) rfl ?_
    exact w
set_option maxRecDepth 20000 in
theorem b_Re_addSign_0 {x1 : Int} {h : ftH} {R : Option ftV → ftH → Prop} 
    (w : ((1760 ≤ h 294 1 → R none h) ∧ (¬ (1760 ≤ h 294 1) → ((0 ≤ h 294 1 ∧ h 294 1 < 1760) ∧ (∀ h1 : ftH, h1 = ft_hs h 295 (h 294 1).toNat (ft_i2b (ft_i2b x1)) → (∀ h2 : ftH, h2 = ft_hs h1 294 1 (ft_add (h1 294 1) 1) → R none h2)))))) : ft_V k_Re_addSign 0 [some (.inr (.inr 294)), some (.inl x1)] [] h R := by
  refine fv_aload_n (ft_d o_Re_addSign 0 rfl) rfl rfl ?_
  refine fv_getI (ft_d o_Re_addSign 1 rfl) rfl fl_Re_63 sh_294 rfl ?_
  refine fv_sipush (ft_d o_Re_addSign 2 rfl) rfl rfl ?_
  refine fv_icmp_ge (tgt := 31) (ft_d o_Re_addSign 3 rfl) rfl rfl (fun c => ?_) (fun c => ?_)
  · have w := w.1 c
    exact fv_return (ft_d o_Re_addSign 17 rfl) rfl w
  · have w := w.2 c
    refine fv_aload_n (ft_d o_Re_addSign 4 rfl) rfl rfl ?_
    refine fv_getR (b := 295) (ft_d o_Re_addSign 5 rfl) rfl fl_Re_11 sh_294 rfl ly_294_0 ?_
    refine fv_aload_n (ft_d o_Re_addSign 6 rfl) rfl rfl ?_
    refine fv_getI (ft_d o_Re_addSign 7 rfl) rfl fl_Re_63 sh_294 rfl ?_
    refine fv_iload_n (ft_d o_Re_addSign 8 rfl) rfl rfl ?_
    refine fv_i2b (ft_d o_Re_addSign 9 rfl) rfl ?_
    refine fv_bast (ft_d o_Re_addSign 10 rfl) rfl sh_295 w.1 ?_
    have w := w.2
    generalize eh1 : ft_hs h 295 (h 294 1).toNat (ft_i2b (ft_i2b x1)) = h1
    have w := w h1 eh1.symm
    refine fv_aload_n (ft_d o_Re_addSign 11 rfl) rfl rfl ?_
    refine fv_dup (ft_d o_Re_addSign 12 rfl) rfl rfl ?_
    refine fv_getI (ft_d o_Re_addSign 13 rfl) rfl fl_Re_63 sh_294 rfl ?_
    refine fv_iconst (ft_d o_Re_addSign 14 rfl) rfl rfl ?_
    refine fv_iadd (ft_d o_Re_addSign 15 rfl) rfl ?_
    refine fv_putI (ft_d o_Re_addSign 16 rfl) rfl fl_Re_63 rfl rfl sh_294 rfl ?_
    generalize eh2 : ft_hs h1 294 1 (ft_add (h1 294 1) 1) = h2
    have w := w h2 eh2.symm
    exact fv_return (ft_d o_Re_addSign 17 rfl) rfl w
set_option maxRecDepth 20000 in
theorem b_SP_make_0 {r1 : Nat} {r2 : Nat} {x3 : Int} {h : ftH} {R : Option ftV → ftH → Prop} (hr1 : ft_sh r1 = some (.inl 4)) (hr2 : ft_sh r2 = some (.inl 4))
    (w : (∀ h1 : ftH, h1 = ft_hs h 289 4 0 → (∃ R1 : Option ftV → ftH → Prop, ft_C k_SP_countTogether [.inr (.inr r1), .inr (.inr r2)] h1 R1 ∧ ∀ (z3 : Int) (h2 : ftH), ft_in z3 → R1 (some (.inl z3)) h2 → ((z3 ≤ x3 → ft_V k_SP_make 20 [some (.inr (.inr 289)), some (.inr (.inr r1)), some (.inr (.inr r2)), none, none, none, none, none, none] [.inl 0, .inr (.inr 289)] h2 R) ∧ (¬ (z3 ≤ x3) → ft_V k_SP_make 20 [some (.inr (.inr 289)), some (.inr (.inr r1)), some (.inr (.inr r2)), none, none, none, none, none, none] [.inl 1, .inr (.inr 289)] h2 R))))) : ft_V k_SP_make 0 [some (.inr (.inr 289)), some (.inr (.inr r1)), some (.inr (.inr r2)), some (.inl x3), none, none, none, none, none] [] h R := by
  refine fv_aload_n (ft_d o_SP_make 0 rfl) rfl rfl ?_
  refine fv_iconst (ft_d o_SP_make 1 rfl) rfl rfl ?_
  refine fv_putI (ft_d o_SP_make 2 rfl) rfl fl_SP_25 rfl rfl sh_289 rfl ?_
  generalize eh1 : ft_hs h 289 4 0 = h1
  have w := w h1 eh1.symm
  refine fv_aload_n (ft_d o_SP_make 3 rfl) rfl rfl ?_
  refine fv_aload_n (ft_d o_SP_make 4 rfl) rfl rfl ?_
  refine fv_aload_n (ft_d o_SP_make 5 rfl) rfl rfl ?_
  obtain ⟨R1, c2, w⟩ := w
  refine fv_calli (st := [.inr (.inr 289)]) (Or.inl rfl) rfl (ft_mm (pre := [.inr (.inr r2), .inr (.inr r1)]) rfl) (ft_rnS (K' := k_SP_countTogether) (As := [.inr (.inr r1), .inr (.inr r2)]) (ft_d o_SP_make 6 rfl) ml_SP_29 lz_SP_countTogether rfl lw_SP_countTogether ⟨rfl, rfl, Nat.le_of_ble_eq_true rfl, Nat.le_of_ble_eq_true rfl⟩ rfl rfl (Nat.le_of_ble_eq_true rfl) c2) (fun z3 h2 hz hw => ?_)
  have w := w z3 h2 hz hw
  refine fv_iload_n (ft_d o_SP_make 7 rfl) rfl rfl ?_
  refine fv_icmp_le (tgt := 19) (ft_d o_SP_make 8 rfl) rfl rfl (fun c => ?_) (fun c => ?_)
  · have w := w.1 c
    refine fv_iconst (ft_d o_SP_make 11 rfl) rfl rfl ?_
    refine fv_mask (M := [true, true, true, false, false, false, false, false, false]) rfl ?_
    exact w
  · have w := w.2 c
    refine fv_iconst (ft_d o_SP_make 9 rfl) rfl rfl ?_
    refine fv_goto (pc' := 20) (ft_d o_SP_make 10 rfl) rfl ?_
    refine fv_mask (M := [true, true, true, false, false, false, false, false, false]) rfl ?_
    exact w
set_option maxRecDepth 20000 in
theorem b_SP_make_20 {r1 : Nat} {r2 : Nat} {y1 : Int} {h : ftH} {R : Option ftV → ftH → Prop} (hr1 : ft_sh r1 = some (.inl 4)) (hr2 : ft_sh r2 = some (.inl 4))
    (w : ((y1 = 0 ∨ y1 = 1) ∧ (∀ h1 : ftH, h1 = ft_hs h 289 5 y1 → ft_V k_SP_make 26 [some (.inr (.inr 289)), some (.inr (.inr r1)), some (.inr (.inr r2)), none, some (.inl 0), none, none, none, none] [] h1 R))) : ft_V k_SP_make 20 [some (.inr (.inr 289)), some (.inr (.inr r1)), some (.inr (.inr r2)), none, none, none, none, none, none] [.inl y1, .inr (.inr 289)] h R := by
  refine fv_putZ (ft_d o_SP_make 12 rfl) rfl fl_SP_33 rfl rfl sh_289 rfl w.1 ?_
  have w := w.2
  generalize eh1 : ft_hs h 289 5 y1 = h1
  have w := w h1 eh1.symm
  refine fv_iconst (ft_d o_SP_make 13 rfl) rfl rfl ?_
  refine fv_istore (L' := [some (.inr (.inr 289)), some (.inr (.inr r1)), some (.inr (.inr r2)), none, some (.inl 0), none, none, none, none]) (ft_d o_SP_make 14 rfl) rfl (Nat.le_of_ble_eq_true rfl) rfl ?_
  exact w
set_option maxRecDepth 20000 in
theorem b_SP_make_26 {r1 : Nat} {r2 : Nat} {x4 : Int} {h : ftH} {R : Option ftV → ftH → Prop} (hr1 : ft_sh r1 = some (.inl 4)) (hr2 : ft_sh r2 = some (.inl 4))
    (w : ((h r2 2 ≤ x4 → ft_V k_SP_make 135 [some (.inr (.inr 289)), some (.inr (.inr r1)), some (.inr (.inr r2)), none, some (.inl 0), none, none, none, none] [] h R) ∧ (¬ (h r2 2 ≤ x4) → ((0 ≤ x4 ∧ x4 < (ft_ln (r2 + 1))) ∧ (∀ n1 : Int, n1 = h (r2 + 1) x4.toNat → ((0 ≤ x4 ∧ x4 < (ft_ln (r2 + 2))) ∧ (∀ n2 : Int, n2 = h (r2 + 2) x4.toNat → ((h 289 5 = 0 → (∃ R3 : Option ftV → ftH → Prop, ft_C k_PS_indexOf [.inr (.inr r1), .inr (.inl n1)] h R3 ∧ ∀ (z5 : Int) (h1 : ftH), ft_in z5 → R3 (some (.inl z5)) h1 → ft_V k_SP_make 70 [some (.inr (.inr 289)), some (.inr (.inr r1)), some (.inr (.inr r2)), none, some (.inl x4), some (.inr (.inl n1)), none, some (.inl n2), none] [.inl z5] h1 R)) ∧ (¬ (h 289 5 = 0) → ft_V k_SP_make 70 [some (.inr (.inr 289)), some (.inr (.inr r1)), some (.inr (.inr r2)), none, some (.inl x4), some (.inr (.inl n1)), none, some (.inl n2), none] [.inl ((-1))] h R))))))))) : ft_V k_SP_make 26 [some (.inr (.inr 289)), some (.inr (.inr r1)), some (.inr (.inr r2)), none, some (.inl x4), none, none, none, none] [] h R := by
  refine fv_iload (ft_d o_SP_make 15 rfl) rfl rfl ?_
  refine fv_aload_n (ft_d o_SP_make 16 rfl) rfl rfl ?_
  refine fv_getI (ft_d o_SP_make 17 rfl) rfl fl_SP_37 hr2 rfl ?_
  refine fv_icmp_ge (tgt := 132) (ft_d o_SP_make 18 rfl) rfl rfl (fun c => ?_) (fun c => ?_)
  · have w := w.1 c
    refine fv_iconst (ft_d o_SP_make 67 rfl) rfl rfl ?_
    refine fv_istore (L' := [some (.inr (.inr 289)), some (.inr (.inr r1)), some (.inr (.inr r2)), none, some (.inl 0), none, none, none, none]) (ft_d o_SP_make 68 rfl) rfl (Nat.le_of_ble_eq_true rfl) rfl ?_
    exact w
  · have w := w.2 c
    refine fv_aload_n (ft_d o_SP_make 19 rfl) rfl rfl ?_
    refine fv_getR (b := r2 + 1) (ft_d o_SP_make 20 rfl) rfl fl_SP_40 hr2 rfl (lyc_4_0 hr2) ?_
    refine fv_iload (ft_d o_SP_make 21 rfl) rfl rfl ?_
    refine fv_lald (ft_d o_SP_make 22 rfl) rfl (shc_4_0 hr2) w.1 ?_
    have w := w.2
    generalize en1 : h (r2 + 1) x4.toNat = n1
    have w := w n1 en1.symm
    refine fv_lstore (L' := [some (.inr (.inr 289)), some (.inr (.inr r1)), some (.inr (.inr r2)), none, some (.inl x4), some (.inr (.inl n1)), none, none, none]) (ft_d o_SP_make 23 rfl) rfl (Nat.le_of_ble_eq_true rfl) rfl ?_
    refine fv_aload_n (ft_d o_SP_make 24 rfl) rfl rfl ?_
    refine fv_getR (b := r2 + 2) (ft_d o_SP_make 25 rfl) rfl fl_SP_41 hr2 rfl (lyc_4_1 hr2) ?_
    refine fv_iload (ft_d o_SP_make 26 rfl) rfl rfl ?_
    refine fv_iald (ft_d o_SP_make 27 rfl) rfl (shc_4_1 hr2) w.1 ?_
    have w := w.2
    generalize en2 : h (r2 + 2) x4.toNat = n2
    have w := w n2 en2.symm
    refine fv_istore (L' := [some (.inr (.inr 289)), some (.inr (.inr r1)), some (.inr (.inr r2)), none, some (.inl x4), some (.inr (.inl n1)), none, some (.inl n2), none]) (ft_d o_SP_make 28 rfl) rfl (Nat.le_of_ble_eq_true rfl) rfl ?_
    refine fv_aload_n (ft_d o_SP_make 29 rfl) rfl rfl ?_
    refine fv_getI (ft_d o_SP_make 30 rfl) rfl fl_SP_33 sh_289 rfl ?_
    refine fv_if_eq (tgt := 64) (ft_d o_SP_make 31 rfl) rfl rfl (fun c => ?_) (fun c => ?_)
    · have w := w.1 c
      refine fv_aload_n (ft_d o_SP_make 34 rfl) rfl rfl ?_
      refine fv_lload (ft_d o_SP_make 35 rfl) rfl rfl ?_
      obtain ⟨R3, c4, w⟩ := w
      refine fv_calli (st := []) (Or.inl rfl) rfl (ft_mm (pre := [.inr (.inl n1), .inr (.inr r1)]) rfl) (ft_rnV (K' := k_PS_indexOf) (As := [.inr (.inl n1)]) (ft_d o_SP_make 36 rfl) ml_SP_44 li_PS_indexOf.1 li_PS_indexOf.2 lw_PS_indexOf ⟨rfl, rfl, Nat.le_of_ble_eq_true rfl, Nat.le_of_ble_eq_true rfl⟩ hr1 rfl rfl rfl rfl (Nat.le_of_ble_eq_true rfl) c4) (fun z5 h1 hz hw => ?_)
      have w := w z5 h1 hz hw
      exact w
    · have w := w.2 c
      refine fv_iconst (ft_d o_SP_make 32 rfl) rfl rfl ?_
      refine fv_goto (pc' := 70) (ft_d o_SP_make 33 rfl) rfl ?_
      exact w
set_option maxRecDepth 20000 in
theorem b_SP_make_70 {r1 : Nat} {r2 : Nat} {x4 : Int} {x5 : Int} {x7 : Int} {y0 : Int} {h : ftH} {R : Option ftV → ftH → Prop} (hr1 : ft_sh r1 = some (.inl 4)) (hr2 : ft_sh r2 = some (.inl 4))
    (w : ((0 ≤ y0 → ((0 ≤ y0 ∧ y0 < (ft_ln (r1 + 2))) ∧ ((h (r1 + 2) y0.toNat = x7 → ft_V k_SP_make 126 [some (.inr (.inr 289)), some (.inr (.inr r1)), some (.inr (.inr r2)), none, some (.inl x4), none, none, none, none] [] h R) ∧ (¬ (h (r1 + 2) y0.toNat = x7) → ((0 ≤ x5) ∧ (∃ R3 : Option ftV → ftH → Prop, ft_C k_SP_add [.inr (.inr 289), .inl (ft_sub 32 (x5 % 64)), .inr (.inl x5), .inl 1, .inl x7] h R3 ∧ ∀ h1 : ftH, R3 none h1 → ft_V k_SP_make 126 [some (.inr (.inr 289)), some (.inr (.inr r1)), some (.inr (.inr r2)), none, some (.inl x4), none, none, none, none] [] h1 R)))))) ∧ (¬ (0 ≤ y0) → ((0 ≤ x5) ∧ (∃ R7 : Option ftV → ftH → Prop, ft_C k_SP_add [.inr (.inr 289), .inl (ft_sub 32 (x5 % 64)), .inr (.inl x5), .inl 0, .inl x7] h R7 ∧ ∀ h2 : ftH, R7 none h2 → ft_V k_SP_make 126 [some (.inr (.inr 289)), some (.inr (.inr r1)), some (.inr (.inr r2)), none, some (.inl x4), none, none, none, none] [] h2 R))))) : ft_V k_SP_make 70 [some (.inr (.inr 289)), some (.inr (.inr r1)), some (.inr (.inr r2)), none, some (.inl x4), some (.inr (.inl x5)), none, some (.inl x7), none] [.inl y0] h R := by
  refine fv_istore (L' := [some (.inr (.inr 289)), some (.inr (.inr r1)), some (.inr (.inr r2)), none, some (.inl x4), some (.inr (.inl x5)), none, some (.inl x7), some (.inl y0)]) (ft_d o_SP_make 37 rfl) rfl (Nat.le_of_ble_eq_true rfl) rfl ?_
  refine fv_iload (ft_d o_SP_make 38 rfl) rfl rfl ?_
  refine fv_if_ge (tgt := 97) (ft_d o_SP_make 39 rfl) rfl rfl (fun c => ?_) (fun c => ?_)
  · have w := w.1 c
    refine fv_aload_n (ft_d o_SP_make 50 rfl) rfl rfl ?_
    refine fv_getR (b := r1 + 2) (ft_d o_SP_make 51 rfl) rfl fl_SP_41 hr1 rfl (lyc_4_1 hr1) ?_
    refine fv_iload (ft_d o_SP_make 52 rfl) rfl rfl ?_
    refine fv_iald (ft_d o_SP_make 53 rfl) rfl (shc_4_1 hr1) w.1 ?_
    have w := w.2
    refine fv_iload (ft_d o_SP_make 54 rfl) rfl rfl ?_
    refine fv_icmp_eq (tgt := 126) (ft_d o_SP_make 55 rfl) rfl rfl (fun c => ?_) (fun c => ?_)
    · have w := w.1 c
      refine fv_mask (M := [true, true, true, false, true, false, false, false, false]) rfl ?_
      exact w
    · have w := w.2 c
      refine fv_aload_n (ft_d o_SP_make 56 rfl) rfl rfl ?_
      refine fv_bipush (ft_d o_SP_make 57 rfl) rfl rfl ?_
      refine fv_lload (ft_d o_SP_make 58 rfl) rfl rfl ?_
      refine fv_callif (st := [.inl 32, .inr (.inr 289)]) (z := x5 % 64) (Or.inl rfl) rfl (ft_mm (pre := [.inr (.inl x5)]) rfl) (ft_rnSN (K' := k_FT_lengthOf) (As := [.inr (.inl x5)]) (host := "ForwardingTable") (ft_d o_SP_make 59 rfl) (by decide) lz_FT_lengthOf lw_FT_lengthOf ⟨rfl, rfl, Nat.le_of_ble_eq_true rfl, Nat.le_of_ble_eq_true rfl⟩ rfl rfl (Nat.le_of_ble_eq_true rfl) (c_FT_lengthOf w.1)) ?_
      have w := w.2
      refine fv_isub (ft_d o_SP_make 60 rfl) rfl ?_
      refine fv_lload (ft_d o_SP_make 61 rfl) rfl rfl ?_
      refine fv_iconst (ft_d o_SP_make 62 rfl) rfl rfl ?_
      refine fv_iload (ft_d o_SP_make 63 rfl) rfl rfl ?_
      obtain ⟨R3, c4, w⟩ := w
      refine fv_callv (st := []) rfl rfl (ft_mm (pre := [.inl x7, .inl 1, .inr (.inl x5), .inl (ft_sub 32 (x5 % 64)), .inr (.inr 289)]) rfl) (ft_rnV (K' := k_SP_add) (As := [.inl (ft_sub 32 (x5 % 64)), .inr (.inl x5), .inl 1, .inl x7]) (ft_d o_SP_make 64 rfl) ml_SP_51 li_SP_add.1 li_SP_add.2 lw_SP_add ⟨rfl, rfl, Nat.le_of_ble_eq_true rfl, Nat.le_of_ble_eq_true rfl⟩ sh_289 rfl rfl rfl rfl (Nat.le_of_ble_eq_true rfl) c4) (fun h1 hw => ?_)
      have w := w h1 hw
      refine fv_mask (M := [true, true, true, false, true, false, false, false, false]) rfl ?_
      exact w
  · have w := w.2 c
    refine fv_aload_n (ft_d o_SP_make 40 rfl) rfl rfl ?_
    refine fv_bipush (ft_d o_SP_make 41 rfl) rfl rfl ?_
    refine fv_lload (ft_d o_SP_make 42 rfl) rfl rfl ?_
    refine fv_callif (st := [.inl 32, .inr (.inr 289)]) (z := x5 % 64) (Or.inl rfl) rfl (ft_mm (pre := [.inr (.inl x5)]) rfl) (ft_rnSN (K' := k_FT_lengthOf) (As := [.inr (.inl x5)]) (host := "ForwardingTable") (ft_d o_SP_make 43 rfl) (by decide) lz_FT_lengthOf lw_FT_lengthOf ⟨rfl, rfl, Nat.le_of_ble_eq_true rfl, Nat.le_of_ble_eq_true rfl⟩ rfl rfl (Nat.le_of_ble_eq_true rfl) (c_FT_lengthOf w.1)) ?_
    have w := w.2
    refine fv_isub (ft_d o_SP_make 44 rfl) rfl ?_
    refine fv_lload (ft_d o_SP_make 45 rfl) rfl rfl ?_
    refine fv_iconst (ft_d o_SP_make 46 rfl) rfl rfl ?_
    refine fv_iload (ft_d o_SP_make 47 rfl) rfl rfl ?_
    obtain ⟨R7, c8, w⟩ := w
    refine fv_callv (st := []) rfl rfl (ft_mm (pre := [.inl x7, .inl 0, .inr (.inl x5), .inl (ft_sub 32 (x5 % 64)), .inr (.inr 289)]) rfl) (ft_rnV (K' := k_SP_add) (As := [.inl (ft_sub 32 (x5 % 64)), .inr (.inl x5), .inl 0, .inl x7]) (ft_d o_SP_make 48 rfl) ml_SP_51 li_SP_add.1 li_SP_add.2 lw_SP_add ⟨rfl, rfl, Nat.le_of_ble_eq_true rfl, Nat.le_of_ble_eq_true rfl⟩ sh_289 rfl rfl rfl rfl (Nat.le_of_ble_eq_true rfl) c8) (fun h2 hw => ?_)
    have w := w h2 hw
    refine fv_goto (pc' := 126) (ft_d o_SP_make 49 rfl) rfl ?_
    refine fv_mask (M := [true, true, true, false, true, false, false, false, false]) rfl ?_
    exact w
set_option maxRecDepth 20000 in
theorem b_SP_make_126 {r1 : Nat} {r2 : Nat} {x4 : Int} {h : ftH} {R : Option ftV → ftH → Prop} (hr1 : ft_sh r1 = some (.inl 4)) (hr2 : ft_sh r2 = some (.inl 4))
    (w : ft_V k_SP_make 26 [some (.inr (.inr 289)), some (.inr (.inr r1)), some (.inr (.inr r2)), none, some (.inl (ft_add x4 1)), none, none, none, none] [] h R) : ft_V k_SP_make 126 [some (.inr (.inr 289)), some (.inr (.inr r1)), some (.inr (.inr r2)), none, some (.inl x4), none, none, none, none] [] h R := by
  refine fv_iinc (L' := [some (.inr (.inr 289)), some (.inr (.inr r1)), some (.inr (.inr r2)), none, some (.inl (ft_add x4 1)), none, none, none, none]) (ft_d o_SP_make 65 rfl) rfl rfl (Nat.le_of_ble_eq_true rfl) rfl ?_
  refine fv_goto (pc' := 26) (ft_d o_SP_make 66 rfl) rfl ?_
  exact w
set_option maxRecDepth 20000 in
theorem b_SP_make_135 {r1 : Nat} {r2 : Nat} {x4 : Int} {h : ftH} {R : Option ftV → ftH → Prop} (hr1 : ft_sh r1 = some (.inl 4)) (hr2 : ft_sh r2 = some (.inl 4))
    (w : ((h r1 2 ≤ x4 → R none h) ∧ (¬ (h r1 2 ≤ x4) → ((¬ (h 289 5 = 0) → R none h) ∧ (h 289 5 = 0 → ((0 ≤ x4 ∧ x4 < (ft_ln (r1 + 1))) ∧ (∀ n1 : Int, n1 = h (r1 + 1) x4.toNat → (∃ R2 : Option ftV → ftH → Prop, ft_C k_PS_indexOf [.inr (.inr r2), .inr (.inl n1)] h R2 ∧ ∀ (z4 : Int) (h1 : ftH), ft_in z4 → R2 (some (.inl z4)) h1 → ((0 ≤ z4 → ft_V k_SP_make 191 [some (.inr (.inr 289)), some (.inr (.inr r1)), some (.inr (.inr r2)), none, some (.inl x4), none, none, none, none] [] h1 R) ∧ (¬ (0 ≤ z4) → ((0 ≤ n1) ∧ ((0 ≤ x4 ∧ x4 < (ft_ln (r1 + 2))) ∧ (∃ R7 : Option ftV → ftH → Prop, ft_C k_SP_add [.inr (.inr 289), .inl (ft_add 33 (n1 % 64)), .inr (.inl n1), .inl 2, .inl (h1 (r1 + 2) x4.toNat)] h1 R7 ∧ ∀ h2 : ftH, R7 none h2 → ft_V k_SP_make 191 [some (.inr (.inr 289)), some (.inr (.inr r1)), some (.inr (.inr r2)), none, some (.inl x4), none, none, none, none] [] h2 R))))))))))))) : ft_V k_SP_make 135 [some (.inr (.inr 289)), some (.inr (.inr r1)), some (.inr (.inr r2)), none, some (.inl x4), none, none, none, none] [] h R := by
  refine fv_iload (ft_d o_SP_make 69 rfl) rfl rfl ?_
  refine fv_aload_n (ft_d o_SP_make 70 rfl) rfl rfl ?_
  refine fv_getI (ft_d o_SP_make 71 rfl) rfl fl_SP_37 hr1 rfl ?_
  refine fv_icmp_ge (tgt := 197) (ft_d o_SP_make 72 rfl) rfl rfl (fun c => ?_) (fun c => ?_)
  · have w := w.1 c
    exact fv_return (ft_d o_SP_make 99 rfl) rfl w
  · have w := w.2 c
    refine fv_aload_n (ft_d o_SP_make 73 rfl) rfl rfl ?_
    refine fv_getI (ft_d o_SP_make 74 rfl) rfl fl_SP_33 sh_289 rfl ?_
    refine fv_if_ne (tgt := 197) (ft_d o_SP_make 75 rfl) rfl rfl (fun c => ?_) (fun c => ?_)
    · have w := w.1 c
      exact fv_return (ft_d o_SP_make 99 rfl) rfl w
    · have w := w.2 c
      refine fv_aload_n (ft_d o_SP_make 76 rfl) rfl rfl ?_
      refine fv_getR (b := r1 + 1) (ft_d o_SP_make 77 rfl) rfl fl_SP_40 hr1 rfl (lyc_4_0 hr1) ?_
      refine fv_iload (ft_d o_SP_make 78 rfl) rfl rfl ?_
      refine fv_lald (ft_d o_SP_make 79 rfl) rfl (shc_4_0 hr1) w.1 ?_
      have w := w.2
      generalize en1 : h (r1 + 1) x4.toNat = n1
      have w := w n1 en1.symm
      refine fv_lstore (L' := [some (.inr (.inr 289)), some (.inr (.inr r1)), some (.inr (.inr r2)), none, some (.inl x4), some (.inr (.inl n1)), none, none, none]) (ft_d o_SP_make 80 rfl) rfl (Nat.le_of_ble_eq_true rfl) rfl ?_
      refine fv_aload_n (ft_d o_SP_make 81 rfl) rfl rfl ?_
      refine fv_lload (ft_d o_SP_make 82 rfl) rfl rfl ?_
      obtain ⟨R2, c3, w⟩ := w
      refine fv_calli (st := []) (Or.inl rfl) rfl (ft_mm (pre := [.inr (.inl n1), .inr (.inr r2)]) rfl) (ft_rnV (K' := k_PS_indexOf) (As := [.inr (.inl n1)]) (ft_d o_SP_make 83 rfl) ml_SP_44 li_PS_indexOf.1 li_PS_indexOf.2 lw_PS_indexOf ⟨rfl, rfl, Nat.le_of_ble_eq_true rfl, Nat.le_of_ble_eq_true rfl⟩ hr2 rfl rfl rfl rfl (Nat.le_of_ble_eq_true rfl) c3) (fun z4 h1 hz hw => ?_)
      have w := w z4 h1 hz hw
      refine fv_if_ge (tgt := 191) (ft_d o_SP_make 84 rfl) rfl rfl (fun c => ?_) (fun c => ?_)
      · have w := w.1 c
        refine fv_mask (M := [true, true, true, false, true, false, false, false, false]) rfl ?_
        exact w
      · have w := w.2 c
        refine fv_aload_n (ft_d o_SP_make 85 rfl) rfl rfl ?_
        refine fv_bipush (ft_d o_SP_make 86 rfl) rfl rfl ?_
        refine fv_lload (ft_d o_SP_make 87 rfl) rfl rfl ?_
        refine fv_callif (st := [.inl 33, .inr (.inr 289)]) (z := n1 % 64) (Or.inl rfl) rfl (ft_mm (pre := [.inr (.inl n1)]) rfl) (ft_rnSN (K' := k_FT_lengthOf) (As := [.inr (.inl n1)]) (host := "ForwardingTable") (ft_d o_SP_make 88 rfl) (by decide) lz_FT_lengthOf lw_FT_lengthOf ⟨rfl, rfl, Nat.le_of_ble_eq_true rfl, Nat.le_of_ble_eq_true rfl⟩ rfl rfl (Nat.le_of_ble_eq_true rfl) (c_FT_lengthOf w.1)) ?_
        have w := w.2
        refine fv_iadd (ft_d o_SP_make 89 rfl) rfl ?_
        refine fv_lload (ft_d o_SP_make 90 rfl) rfl rfl ?_
        refine fv_iconst (ft_d o_SP_make 91 rfl) rfl rfl ?_
        refine fv_aload_n (ft_d o_SP_make 92 rfl) rfl rfl ?_
        refine fv_getR (b := r1 + 2) (ft_d o_SP_make 93 rfl) rfl fl_SP_41 hr1 rfl (lyc_4_1 hr1) ?_
        refine fv_iload (ft_d o_SP_make 94 rfl) rfl rfl ?_
        refine fv_iald (ft_d o_SP_make 95 rfl) rfl (shc_4_1 hr1) w.1 ?_
        have w := w.2
        obtain ⟨R7, c8, w⟩ := w
        refine fv_callv (st := []) rfl rfl (ft_mm (pre := [.inl (h1 (r1 + 2) x4.toNat), .inl 2, .inr (.inl n1), .inl (ft_add 33 (n1 % 64)), .inr (.inr 289)]) rfl) (ft_rnV (K' := k_SP_add) (As := [.inl (ft_add 33 (n1 % 64)), .inr (.inl n1), .inl 2, .inl (h1 (r1 + 2) x4.toNat)]) (ft_d o_SP_make 96 rfl) ml_SP_51 li_SP_add.1 li_SP_add.2 lw_SP_add ⟨rfl, rfl, Nat.le_of_ble_eq_true rfl, Nat.le_of_ble_eq_true rfl⟩ sh_289 rfl rfl rfl rfl (Nat.le_of_ble_eq_true rfl) c8) (fun h2 hw => ?_)
        have w := w h2 hw
        refine fv_mask (M := [true, true, true, false, true, false, false, false, false]) rfl ?_
        exact w
set_option maxRecDepth 20000 in
theorem b_SP_make_191 {r1 : Nat} {r2 : Nat} {x4 : Int} {h : ftH} {R : Option ftV → ftH → Prop} (hr1 : ft_sh r1 = some (.inl 4)) (hr2 : ft_sh r2 = some (.inl 4))
    (w : ft_V k_SP_make 135 [some (.inr (.inr 289)), some (.inr (.inr r1)), some (.inr (.inr r2)), none, some (.inl (ft_add x4 1)), none, none, none, none] [] h R) : ft_V k_SP_make 191 [some (.inr (.inr 289)), some (.inr (.inr r1)), some (.inr (.inr r2)), none, some (.inl x4), none, none, none, none] [] h R := by
  refine fv_iinc (L' := [some (.inr (.inr 289)), some (.inr (.inr r1)), some (.inr (.inr r2)), none, some (.inl (ft_add x4 1)), none, none, none, none]) (ft_d o_SP_make 97 rfl) rfl rfl (Nat.le_of_ble_eq_true rfl) rfl ?_
  refine fv_goto (pc' := 135) (ft_d o_SP_make 98 rfl) rfl ?_
  exact w
set_option maxRecDepth 20000 in
theorem b_SP_countTogether_0 {r0 : Nat} {r1 : Nat} {h : ftH} {R : Option ftV → ftH → Prop} (hr0 : ft_sh r0 = some (.inl 4)) (hr1 : ft_sh r1 = some (.inl 4))
    (w : (∀ n1 : Int, n1 = h r0 2 → ft_V k_SP_countTogether 7 [some (.inr (.inr r0)), some (.inr (.inr r1)), some (.inl n1), some (.inl 0)] [] h R)) : ft_V k_SP_countTogether 0 [some (.inr (.inr r0)), some (.inr (.inr r1)), none, none] [] h R := by
  refine fv_aload_n (ft_d o_SP_countTogether 0 rfl) rfl rfl ?_
  refine fv_getI (ft_d o_SP_countTogether 1 rfl) rfl fl_SP_37 hr0 rfl ?_
  generalize en1 : h r0 2 = n1
  have w := w n1 en1.symm
  refine fv_istore_n (L' := [some (.inr (.inr r0)), some (.inr (.inr r1)), some (.inl n1), none]) (ft_d o_SP_countTogether 2 rfl) rfl (Nat.le_of_ble_eq_true rfl) rfl ?_
  refine fv_iconst (ft_d o_SP_countTogether 3 rfl) rfl rfl ?_
  refine fv_istore_n (L' := [some (.inr (.inr r0)), some (.inr (.inr r1)), some (.inl n1), some (.inl 0)]) (ft_d o_SP_countTogether 4 rfl) rfl (Nat.le_of_ble_eq_true rfl) rfl ?_
  exact w
set_option maxRecDepth 20000 in
theorem b_SP_countTogether_7 {r0 : Nat} {r1 : Nat} {x2 : Int} {x3 : Int} {h : ftH} {R : Option ftV → ftH → Prop} (hr0 : ft_sh r0 = some (.inl 4)) (hr1 : ft_sh r1 = some (.inl 4))
    (w : ((h r1 2 ≤ x3 → R (some (.inl x2)) h) ∧ (¬ (h r1 2 ≤ x3) → ((0 ≤ x3 ∧ x3 < (ft_ln (r1 + 1))) ∧ (∃ R1 : Option ftV → ftH → Prop, ft_C k_PS_indexOf [.inr (.inr r0), .inr (.inl (h (r1 + 1) x3.toNat))] h R1 ∧ ∀ (z3 : Int) (h1 : ftH), ft_in z3 → R1 (some (.inl z3)) h1 → ((0 ≤ z3 → ft_V k_SP_countTogether 7 [some (.inr (.inr r0)), some (.inr (.inr r1)), some (.inl x2), some (.inl (ft_add x3 1))] [] h1 R) ∧ (¬ (0 ≤ z3) → ft_V k_SP_countTogether 7 [some (.inr (.inr r0)), some (.inr (.inr r1)), some (.inl (ft_add x2 1)), some (.inl (ft_add x3 1))] [] h1 R))))))) : ft_V k_SP_countTogether 7 [some (.inr (.inr r0)), some (.inr (.inr r1)), some (.inl x2), some (.inl x3)] [] h R := by
  refine fv_iload_n (ft_d o_SP_countTogether 5 rfl) rfl rfl ?_
  refine fv_aload_n (ft_d o_SP_countTogether 6 rfl) rfl rfl ?_
  refine fv_getI (ft_d o_SP_countTogether 7 rfl) rfl fl_SP_37 hr1 rfl ?_
  refine fv_icmp_ge (tgt := 37) (ft_d o_SP_countTogether 8 rfl) rfl rfl (fun c => ?_) (fun c => ?_)
  · have w := w.1 c
    refine fv_iload_n (ft_d o_SP_countTogether 19 rfl) rfl rfl ?_
    exact fv_ireturn (ft_d o_SP_countTogether 20 rfl) rfl w
  · have w := w.2 c
    refine fv_aload_n (ft_d o_SP_countTogether 9 rfl) rfl rfl ?_
    refine fv_aload_n (ft_d o_SP_countTogether 10 rfl) rfl rfl ?_
    refine fv_getR (b := r1 + 1) (ft_d o_SP_countTogether 11 rfl) rfl fl_SP_40 hr1 rfl (lyc_4_0 hr1) ?_
    refine fv_iload_n (ft_d o_SP_countTogether 12 rfl) rfl rfl ?_
    refine fv_lald (ft_d o_SP_countTogether 13 rfl) rfl (shc_4_0 hr1) w.1 ?_
    have w := w.2
    obtain ⟨R1, c2, w⟩ := w
    refine fv_calli (st := []) (Or.inl rfl) rfl (ft_mm (pre := [.inr (.inl (h (r1 + 1) x3.toNat)), .inr (.inr r0)]) rfl) (ft_rnV (K' := k_PS_indexOf) (As := [.inr (.inl (h (r1 + 1) x3.toNat))]) (ft_d o_SP_countTogether 14 rfl) ml_SP_44 li_PS_indexOf.1 li_PS_indexOf.2 lw_PS_indexOf ⟨rfl, rfl, Nat.le_of_ble_eq_true rfl, Nat.le_of_ble_eq_true rfl⟩ hr0 rfl rfl rfl rfl (Nat.le_of_ble_eq_true rfl) c2) (fun z3 h1 hz hw => ?_)
    have w := w z3 h1 hz hw
    refine fv_if_ge (tgt := 31) (ft_d o_SP_countTogether 15 rfl) rfl rfl (fun c => ?_) (fun c => ?_)
    · have w := w.1 c
      refine fv_iinc (L' := [some (.inr (.inr r0)), some (.inr (.inr r1)), some (.inl x2), some (.inl (ft_add x3 1))]) (ft_d o_SP_countTogether 17 rfl) rfl rfl (Nat.le_of_ble_eq_true rfl) rfl ?_
      refine fv_goto (pc' := 7) (ft_d o_SP_countTogether 18 rfl) rfl ?_
      exact w
    · have w := w.2 c
      refine fv_iinc (L' := [some (.inr (.inr r0)), some (.inr (.inr r1)), some (.inl (ft_add x2 1)), some (.inl x3)]) (ft_d o_SP_countTogether 16 rfl) rfl rfl (Nat.le_of_ble_eq_true rfl) rfl ?_
      refine fv_iinc (L' := [some (.inr (.inr r0)), some (.inr (.inr r1)), some (.inl (ft_add x2 1)), some (.inl (ft_add x3 1))]) (ft_d o_SP_countTogether 17 rfl) rfl rfl (Nat.le_of_ble_eq_true rfl) rfl ?_
      refine fv_goto (pc' := 7) (ft_d o_SP_countTogether 18 rfl) rfl ?_
      exact w
set_option maxRecDepth 20000 in
theorem b_SP_add_0 {x1 : Int} {x2 : Int} {x4 : Int} {x5 : Int} {h : ftH} {R : Option ftV → ftH → Prop} 
    (w : ((h 289 4 < 140 → (∀ n1 : Int, n1 = h 289 4 → ft_V k_SP_add 17 [some (.inr (.inr 289)), some (.inl x1), some (.inr (.inl x2)), none, some (.inl x4), some (.inl x5), some (.inl n1)] [] h R)) ∧ (¬ (h 289 4 < 140) → R none h))) : ft_V k_SP_add 0 [some (.inr (.inr 289)), some (.inl x1), some (.inr (.inl x2)), none, some (.inl x4), some (.inl x5), none] [] h R := by
  refine fv_aload_n (ft_d o_SP_add 0 rfl) rfl rfl ?_
  refine fv_getI (ft_d o_SP_add 1 rfl) rfl fl_SP_25 sh_289 rfl ?_
  refine fv_sipush (ft_d o_SP_add 2 rfl) rfl rfl ?_
  refine fv_icmp_lt (tgt := 11) (ft_d o_SP_add 3 rfl) rfl rfl (fun c => ?_) (fun c => ?_)
  · have w := w.1 c
    refine fv_aload_n (ft_d o_SP_add 5 rfl) rfl rfl ?_
    refine fv_getI (ft_d o_SP_add 6 rfl) rfl fl_SP_25 sh_289 rfl ?_
    generalize en1 : h 289 4 = n1
    have w := w n1 en1.symm
    refine fv_istore (L' := [some (.inr (.inr 289)), some (.inl x1), some (.inr (.inl x2)), none, some (.inl x4), some (.inl x5), some (.inl n1)]) (ft_d o_SP_add 7 rfl) rfl (Nat.le_of_ble_eq_true rfl) rfl ?_
    exact w
  · have w := w.2 c
    exact fv_return (ft_d o_SP_add 4 rfl) rfl w
set_option maxRecDepth 20000 in
theorem b_SP_add_17 {x1 : Int} {x2 : Int} {x4 : Int} {x5 : Int} {x6 : Int} {h : ftH} {R : Option ftV → ftH → Prop} 
    (w : ((x6 ≤ 0 → ((0 ≤ x6 ∧ x6 < 140) ∧ (∀ h1 : ftH, h1 = ft_hs h 293 x6.toNat x1 → ((0 ≤ x6 ∧ x6 < 140) ∧ (∀ h2 : ftH, h2 = ft_hs h1 290 x6.toNat x2 → ((0 ≤ x6 ∧ x6 < 140) ∧ (∀ h3 : ftH, h3 = ft_hs h2 291 x6.toNat x4 → ((0 ≤ x6 ∧ x6 < 140) ∧ (∀ h4 : ftH, h4 = ft_hs h3 292 x6.toNat x5 → (∀ h5 : ftH, h5 = ft_hs h4 289 4 (ft_add (h4 289 4) 1) → R none h5)))))))))) ∧ (¬ (x6 ≤ 0) → ((0 ≤ ft_sub x6 1 ∧ ft_sub x6 1 < 140) ∧ ((h 293 (ft_sub x6 1).toNat ≤ x1 → ((0 ≤ x6 ∧ x6 < 140) ∧ (∀ h6 : ftH, h6 = ft_hs h 293 x6.toNat x1 → ((0 ≤ x6 ∧ x6 < 140) ∧ (∀ h7 : ftH, h7 = ft_hs h6 290 x6.toNat x2 → ((0 ≤ x6 ∧ x6 < 140) ∧ (∀ h8 : ftH, h8 = ft_hs h7 291 x6.toNat x4 → ((0 ≤ x6 ∧ x6 < 140) ∧ (∀ h9 : ftH, h9 = ft_hs h8 292 x6.toNat x5 → (∀ h10 : ftH, h10 = ft_hs h9 289 4 (ft_add (h9 289 4) 1) → R none h10)))))))))) ∧ (¬ (h 293 (ft_sub x6 1).toNat ≤ x1) → ((0 ≤ ft_sub x6 1 ∧ ft_sub x6 1 < 140) ∧ ((0 ≤ x6 ∧ x6 < 140) ∧ (∀ h11 : ftH, h11 = ft_hs h 293 x6.toNat (h 293 (ft_sub x6 1).toNat) → ((0 ≤ ft_sub x6 1 ∧ ft_sub x6 1 < 140) ∧ ((0 ≤ x6 ∧ x6 < 140) ∧ (∀ h12 : ftH, h12 = ft_hs h11 290 x6.toNat (h11 290 (ft_sub x6 1).toNat) → ((0 ≤ ft_sub x6 1 ∧ ft_sub x6 1 < 140) ∧ ((0 ≤ x6 ∧ x6 < 140) ∧ (∀ h13 : ftH, h13 = ft_hs h12 291 x6.toNat (h12 291 (ft_sub x6 1).toNat) → ((0 ≤ ft_sub x6 1 ∧ ft_sub x6 1 < 140) ∧ ((0 ≤ x6 ∧ x6 < 140) ∧ (∀ h14 : ftH, h14 = ft_hs h13 292 x6.toNat (h13 292 (ft_sub x6 1).toNat) → ft_V k_SP_add 17 [some (.inr (.inr 289)), some (.inl x1), some (.inr (.inl x2)), none, some (.inl x4), some (.inl x5), some (.inl (ft_add x6 (-1)))] [] h14 R)))))))))))))))))) : ft_V k_SP_add 17 [some (.inr (.inr 289)), some (.inl x1), some (.inr (.inl x2)), none, some (.inl x4), some (.inl x5), some (.inl x6)] [] h R := by
  refine fv_iload (ft_d o_SP_add 8 rfl) rfl rfl ?_
  refine fv_if_le (tgt := 105) (ft_d o_SP_add 9 rfl) rfl rfl (fun c => ?_) (fun c => ?_)
  · have w := w.1 c
    refine fv_aload_n (ft_d o_SP_add 60 rfl) rfl rfl ?_
    refine fv_getR (b := 293) (ft_d o_SP_add 61 rfl) rfl fl_SP_22 sh_289 rfl ly_289_3 ?_
    refine fv_iload (ft_d o_SP_add 62 rfl) rfl rfl ?_
    refine fv_iload_n (ft_d o_SP_add 63 rfl) rfl rfl ?_
    refine fv_iast (ft_d o_SP_add 64 rfl) rfl sh_293 w.1 ?_
    have w := w.2
    generalize eh1 : ft_hs h 293 x6.toNat x1 = h1
    have w := w h1 eh1.symm
    refine fv_aload_n (ft_d o_SP_add 65 rfl) rfl rfl ?_
    refine fv_getR (b := 290) (ft_d o_SP_add 66 rfl) rfl fl_SP_11 sh_289 rfl ly_289_0 ?_
    refine fv_iload (ft_d o_SP_add 67 rfl) rfl rfl ?_
    refine fv_lload_n (ft_d o_SP_add 68 rfl) rfl rfl ?_
    refine fv_last (ft_d o_SP_add 69 rfl) rfl sh_290 w.1 ?_
    have w := w.2
    generalize eh2 : ft_hs h1 290 x6.toNat x2 = h2
    have w := w h2 eh2.symm
    refine fv_aload_n (ft_d o_SP_add 70 rfl) rfl rfl ?_
    refine fv_getR (b := 291) (ft_d o_SP_add 71 rfl) rfl fl_SP_15 sh_289 rfl ly_289_1 ?_
    refine fv_iload (ft_d o_SP_add 72 rfl) rfl rfl ?_
    refine fv_iload (ft_d o_SP_add 73 rfl) rfl rfl ?_
    refine fv_iast (ft_d o_SP_add 74 rfl) rfl sh_291 w.1 ?_
    have w := w.2
    generalize eh3 : ft_hs h2 291 x6.toNat x4 = h3
    have w := w h3 eh3.symm
    refine fv_aload_n (ft_d o_SP_add 75 rfl) rfl rfl ?_
    refine fv_getR (b := 292) (ft_d o_SP_add 76 rfl) rfl fl_SP_19 sh_289 rfl ly_289_2 ?_
    refine fv_iload (ft_d o_SP_add 77 rfl) rfl rfl ?_
    refine fv_iload (ft_d o_SP_add 78 rfl) rfl rfl ?_
    refine fv_iast (ft_d o_SP_add 79 rfl) rfl sh_292 w.1 ?_
    have w := w.2
    generalize eh4 : ft_hs h3 292 x6.toNat x5 = h4
    have w := w h4 eh4.symm
    refine fv_aload_n (ft_d o_SP_add 80 rfl) rfl rfl ?_
    refine fv_dup (ft_d o_SP_add 81 rfl) rfl rfl ?_
    refine fv_getI (ft_d o_SP_add 82 rfl) rfl fl_SP_25 sh_289 rfl ?_
    refine fv_iconst (ft_d o_SP_add 83 rfl) rfl rfl ?_
    refine fv_iadd (ft_d o_SP_add 84 rfl) rfl ?_
    refine fv_putI (ft_d o_SP_add 85 rfl) rfl fl_SP_25 rfl rfl sh_289 rfl ?_
    generalize eh5 : ft_hs h4 289 4 (ft_add (h4 289 4) 1) = h5
    have w := w h5 eh5.symm
    exact fv_return (ft_d o_SP_add 86 rfl) rfl w
  · have w := w.2 c
    refine fv_aload_n (ft_d o_SP_add 10 rfl) rfl rfl ?_
    refine fv_getR (b := 293) (ft_d o_SP_add 11 rfl) rfl fl_SP_22 sh_289 rfl ly_289_3 ?_
    refine fv_iload (ft_d o_SP_add 12 rfl) rfl rfl ?_
    refine fv_iconst (ft_d o_SP_add 13 rfl) rfl rfl ?_
    refine fv_isub (ft_d o_SP_add 14 rfl) rfl ?_
    refine fv_iald (ft_d o_SP_add 15 rfl) rfl sh_293 w.1 ?_
    have w := w.2
    refine fv_iload_n (ft_d o_SP_add 16 rfl) rfl rfl ?_
    refine fv_icmp_le (tgt := 105) (ft_d o_SP_add 17 rfl) rfl rfl (fun c => ?_) (fun c => ?_)
    · have w := w.1 c
      refine fv_aload_n (ft_d o_SP_add 60 rfl) rfl rfl ?_
      refine fv_getR (b := 293) (ft_d o_SP_add 61 rfl) rfl fl_SP_22 sh_289 rfl ly_289_3 ?_
      refine fv_iload (ft_d o_SP_add 62 rfl) rfl rfl ?_
      refine fv_iload_n (ft_d o_SP_add 63 rfl) rfl rfl ?_
      refine fv_iast (ft_d o_SP_add 64 rfl) rfl sh_293 w.1 ?_
      have w := w.2
      generalize eh6 : ft_hs h 293 x6.toNat x1 = h6
      have w := w h6 eh6.symm
      refine fv_aload_n (ft_d o_SP_add 65 rfl) rfl rfl ?_
      refine fv_getR (b := 290) (ft_d o_SP_add 66 rfl) rfl fl_SP_11 sh_289 rfl ly_289_0 ?_
      refine fv_iload (ft_d o_SP_add 67 rfl) rfl rfl ?_
      refine fv_lload_n (ft_d o_SP_add 68 rfl) rfl rfl ?_
      refine fv_last (ft_d o_SP_add 69 rfl) rfl sh_290 w.1 ?_
      have w := w.2
      generalize eh7 : ft_hs h6 290 x6.toNat x2 = h7
      have w := w h7 eh7.symm
      refine fv_aload_n (ft_d o_SP_add 70 rfl) rfl rfl ?_
      refine fv_getR (b := 291) (ft_d o_SP_add 71 rfl) rfl fl_SP_15 sh_289 rfl ly_289_1 ?_
      refine fv_iload (ft_d o_SP_add 72 rfl) rfl rfl ?_
      refine fv_iload (ft_d o_SP_add 73 rfl) rfl rfl ?_
      refine fv_iast (ft_d o_SP_add 74 rfl) rfl sh_291 w.1 ?_
      have w := w.2
      generalize eh8 : ft_hs h7 291 x6.toNat x4 = h8
      have w := w h8 eh8.symm
      refine fv_aload_n (ft_d o_SP_add 75 rfl) rfl rfl ?_
      refine fv_getR (b := 292) (ft_d o_SP_add 76 rfl) rfl fl_SP_19 sh_289 rfl ly_289_2 ?_
      refine fv_iload (ft_d o_SP_add 77 rfl) rfl rfl ?_
      refine fv_iload (ft_d o_SP_add 78 rfl) rfl rfl ?_
      refine fv_iast (ft_d o_SP_add 79 rfl) rfl sh_292 w.1 ?_
      have w := w.2
      generalize eh9 : ft_hs h8 292 x6.toNat x5 = h9
      have w := w h9 eh9.symm
      refine fv_aload_n (ft_d o_SP_add 80 rfl) rfl rfl ?_
      refine fv_dup (ft_d o_SP_add 81 rfl) rfl rfl ?_
      refine fv_getI (ft_d o_SP_add 82 rfl) rfl fl_SP_25 sh_289 rfl ?_
      refine fv_iconst (ft_d o_SP_add 83 rfl) rfl rfl ?_
      refine fv_iadd (ft_d o_SP_add 84 rfl) rfl ?_
      refine fv_putI (ft_d o_SP_add 85 rfl) rfl fl_SP_25 rfl rfl sh_289 rfl ?_
      generalize eh10 : ft_hs h9 289 4 (ft_add (h9 289 4) 1) = h10
      have w := w h10 eh10.symm
      exact fv_return (ft_d o_SP_add 86 rfl) rfl w
    · have w := w.2 c
      refine fv_aload_n (ft_d o_SP_add 18 rfl) rfl rfl ?_
      refine fv_getR (b := 293) (ft_d o_SP_add 19 rfl) rfl fl_SP_22 sh_289 rfl ly_289_3 ?_
      refine fv_iload (ft_d o_SP_add 20 rfl) rfl rfl ?_
      refine fv_aload_n (ft_d o_SP_add 21 rfl) rfl rfl ?_
      refine fv_getR (b := 293) (ft_d o_SP_add 22 rfl) rfl fl_SP_22 sh_289 rfl ly_289_3 ?_
      refine fv_iload (ft_d o_SP_add 23 rfl) rfl rfl ?_
      refine fv_iconst (ft_d o_SP_add 24 rfl) rfl rfl ?_
      refine fv_isub (ft_d o_SP_add 25 rfl) rfl ?_
      refine fv_iald (ft_d o_SP_add 26 rfl) rfl sh_293 w.1 ?_
      have w := w.2
      refine fv_iast (ft_d o_SP_add 27 rfl) rfl sh_293 w.1 ?_
      have w := w.2
      generalize eh11 : ft_hs h 293 x6.toNat (h 293 (ft_sub x6 1).toNat) = h11
      have w := w h11 eh11.symm
      refine fv_aload_n (ft_d o_SP_add 28 rfl) rfl rfl ?_
      refine fv_getR (b := 290) (ft_d o_SP_add 29 rfl) rfl fl_SP_11 sh_289 rfl ly_289_0 ?_
      refine fv_iload (ft_d o_SP_add 30 rfl) rfl rfl ?_
      refine fv_aload_n (ft_d o_SP_add 31 rfl) rfl rfl ?_
      refine fv_getR (b := 290) (ft_d o_SP_add 32 rfl) rfl fl_SP_11 sh_289 rfl ly_289_0 ?_
      refine fv_iload (ft_d o_SP_add 33 rfl) rfl rfl ?_
      refine fv_iconst (ft_d o_SP_add 34 rfl) rfl rfl ?_
      refine fv_isub (ft_d o_SP_add 35 rfl) rfl ?_
      refine fv_lald (ft_d o_SP_add 36 rfl) rfl sh_290 w.1 ?_
      have w := w.2
      refine fv_last (ft_d o_SP_add 37 rfl) rfl sh_290 w.1 ?_
      have w := w.2
      generalize eh12 : ft_hs h11 290 x6.toNat (h11 290 (ft_sub x6 1).toNat) = h12
      have w := w h12 eh12.symm
      refine fv_aload_n (ft_d o_SP_add 38 rfl) rfl rfl ?_
      refine fv_getR (b := 291) (ft_d o_SP_add 39 rfl) rfl fl_SP_15 sh_289 rfl ly_289_1 ?_
      refine fv_iload (ft_d o_SP_add 40 rfl) rfl rfl ?_
      refine fv_aload_n (ft_d o_SP_add 41 rfl) rfl rfl ?_
      refine fv_getR (b := 291) (ft_d o_SP_add 42 rfl) rfl fl_SP_15 sh_289 rfl ly_289_1 ?_
      refine fv_iload (ft_d o_SP_add 43 rfl) rfl rfl ?_
      refine fv_iconst (ft_d o_SP_add 44 rfl) rfl rfl ?_
      refine fv_isub (ft_d o_SP_add 45 rfl) rfl ?_
      refine fv_iald (ft_d o_SP_add 46 rfl) rfl sh_291 w.1 ?_
      have w := w.2
      refine fv_iast (ft_d o_SP_add 47 rfl) rfl sh_291 w.1 ?_
      have w := w.2
      generalize eh13 : ft_hs h12 291 x6.toNat (h12 291 (ft_sub x6 1).toNat) = h13
      have w := w h13 eh13.symm
      refine fv_aload_n (ft_d o_SP_add 48 rfl) rfl rfl ?_
      refine fv_getR (b := 292) (ft_d o_SP_add 49 rfl) rfl fl_SP_19 sh_289 rfl ly_289_2 ?_
      refine fv_iload (ft_d o_SP_add 50 rfl) rfl rfl ?_
      refine fv_aload_n (ft_d o_SP_add 51 rfl) rfl rfl ?_
      refine fv_getR (b := 292) (ft_d o_SP_add 52 rfl) rfl fl_SP_19 sh_289 rfl ly_289_2 ?_
      refine fv_iload (ft_d o_SP_add 53 rfl) rfl rfl ?_
      refine fv_iconst (ft_d o_SP_add 54 rfl) rfl rfl ?_
      refine fv_isub (ft_d o_SP_add 55 rfl) rfl ?_
      refine fv_iald (ft_d o_SP_add 56 rfl) rfl sh_292 w.1 ?_
      have w := w.2
      refine fv_iast (ft_d o_SP_add 57 rfl) rfl sh_292 w.1 ?_
      have w := w.2
      generalize eh14 : ft_hs h13 292 x6.toNat (h13 292 (ft_sub x6 1).toNat) = h14
      have w := w h14 eh14.symm
      refine fv_iinc (L' := [some (.inr (.inr 289)), some (.inl x1), some (.inr (.inl x2)), none, some (.inl x4), some (.inl x5), some (.inl (ft_add x6 (-1)))]) (ft_d o_SP_add 58 rfl) rfl rfl (Nat.le_of_ble_eq_true rfl) rfl ?_
      refine fv_goto (pc' := 17) (ft_d o_SP_add 59 rfl) rfl ?_
      exact w
set_option maxRecDepth 20000 in
theorem b_SP_makeChanges_0 {r1 : Nat} {x2 : Int} {h : ftH} {R : Option ftV → ftH → Prop} (hr1 : ft_sh r1 = some (.inl 4))
    (w : (∀ n1 : Int, n1 = min x2 (h 289 4) → ft_V k_SP_makeChanges 12 [some (.inr (.inr 289)), some (.inr (.inr r1)), none, some (.inl n1), some (.inl 0)] [] h R)) : ft_V k_SP_makeChanges 0 [some (.inr (.inr 289)), some (.inr (.inr r1)), some (.inl x2), none, none] [] h R := by
  refine fv_iload_n (ft_d o_SP_makeChanges 0 rfl) rfl rfl ?_
  refine fv_aload_n (ft_d o_SP_makeChanges 1 rfl) rfl rfl ?_
  refine fv_getI (ft_d o_SP_makeChanges 2 rfl) rfl fl_SP_25 sh_289 rfl ?_
  refine fv_min (ft_d o_SP_makeChanges 3 rfl) rfl ml_SP_55 (Nat.le_of_ble_eq_true rfl) (Nat.le_of_ble_eq_true rfl) (Nat.le_of_ble_eq_true rfl) ?_
  generalize en1 : min x2 (h 289 4) = n1
  have w := w n1 en1.symm
  refine fv_istore_n (L' := [some (.inr (.inr 289)), some (.inr (.inr r1)), some (.inl x2), some (.inl n1), none]) (ft_d o_SP_makeChanges 4 rfl) rfl (Nat.le_of_ble_eq_true rfl) rfl ?_
  refine fv_iconst (ft_d o_SP_makeChanges 5 rfl) rfl rfl ?_
  refine fv_istore (L' := [some (.inr (.inr 289)), some (.inr (.inr r1)), some (.inl x2), some (.inl n1), some (.inl 0)]) (ft_d o_SP_makeChanges 6 rfl) rfl (Nat.le_of_ble_eq_true rfl) rfl ?_
  refine fv_mask (M := [true, true, false, true, true]) rfl ?_
  exact w
set_option maxRecDepth 20000 in
theorem b_SP_makeChanges_12 {r1 : Nat} {x3 : Int} {x4 : Int} {h : ftH} {R : Option ftV → ftH → Prop} (hr1 : ft_sh r1 = some (.inl 4))
    (w : ((x3 ≤ x4 → R (some (.inl x3)) h) ∧ (¬ (x3 ≤ x4) → ((0 ≤ x4 ∧ x4 < 140) ∧ ((¬ (h 291 x4.toNat = 2) → ((0 ≤ x4 ∧ x4 < 140) ∧ ((0 ≤ x4 ∧ x4 < 140) ∧ (∃ R1 : Option ftV → ftH → Prop, ft_C k_PS_put [.inr (.inr r1), .inr (.inl (h 290 x4.toNat)), .inl (h 292 x4.toNat)] h R1 ∧ ∀ h1 : ftH, R1 none h1 → ft_V k_SP_makeChanges 12 [some (.inr (.inr 289)), some (.inr (.inr r1)), none, some (.inl x3), some (.inl (ft_add x4 1))] [] h1 R)))) ∧ (h 291 x4.toNat = 2 → ((0 ≤ x4 ∧ x4 < 140) ∧ (∃ R3 : Option ftV → ftH → Prop, ft_C k_PS_indexOf [.inr (.inr r1), .inr (.inl (h 290 x4.toNat))] h R3 ∧ ∀ (z5 : Int) (h2 : ftH), ft_in z5 → R3 (some (.inl z5)) h2 → (∃ R6 : Option ftV → ftH → Prop, ft_C k_PS_removeAt [.inr (.inr r1), .inl z5] h2 R6 ∧ ∀ h3 : ftH, R6 none h3 → ft_V k_SP_makeChanges 12 [some (.inr (.inr 289)), some (.inr (.inr r1)), none, some (.inl x3), some (.inl (ft_add x4 1))] [] h3 R))))))))) : ft_V k_SP_makeChanges 12 [some (.inr (.inr 289)), some (.inr (.inr r1)), none, some (.inl x3), some (.inl x4)] [] h R := by
  refine fv_iload (ft_d o_SP_makeChanges 7 rfl) rfl rfl ?_
  refine fv_iload_n (ft_d o_SP_makeChanges 8 rfl) rfl rfl ?_
  refine fv_icmp_ge (tgt := 71) (ft_d o_SP_makeChanges 9 rfl) rfl rfl (fun c => ?_) (fun c => ?_)
  · have w := w.1 c
    refine fv_iload_n (ft_d o_SP_makeChanges 37 rfl) rfl rfl ?_
    exact fv_ireturn (ft_d o_SP_makeChanges 38 rfl) rfl w
  · have w := w.2 c
    refine fv_aload_n (ft_d o_SP_makeChanges 10 rfl) rfl rfl ?_
    refine fv_getR (b := 291) (ft_d o_SP_makeChanges 11 rfl) rfl fl_SP_15 sh_289 rfl ly_289_1 ?_
    refine fv_iload (ft_d o_SP_makeChanges 12 rfl) rfl rfl ?_
    refine fv_iald (ft_d o_SP_makeChanges 13 rfl) rfl sh_291 w.1 ?_
    have w := w.2
    refine fv_iconst (ft_d o_SP_makeChanges 14 rfl) rfl rfl ?_
    refine fv_icmp_ne (tgt := 47) (ft_d o_SP_makeChanges 15 rfl) rfl rfl (fun c => ?_) (fun c => ?_)
    · have w := w.1 c
      refine fv_aload_n (ft_d o_SP_makeChanges 25 rfl) rfl rfl ?_
      refine fv_aload_n (ft_d o_SP_makeChanges 26 rfl) rfl rfl ?_
      refine fv_getR (b := 290) (ft_d o_SP_makeChanges 27 rfl) rfl fl_SP_11 sh_289 rfl ly_289_0 ?_
      refine fv_iload (ft_d o_SP_makeChanges 28 rfl) rfl rfl ?_
      refine fv_lald (ft_d o_SP_makeChanges 29 rfl) rfl sh_290 w.1 ?_
      have w := w.2
      refine fv_aload_n (ft_d o_SP_makeChanges 30 rfl) rfl rfl ?_
      refine fv_getR (b := 292) (ft_d o_SP_makeChanges 31 rfl) rfl fl_SP_19 sh_289 rfl ly_289_2 ?_
      refine fv_iload (ft_d o_SP_makeChanges 32 rfl) rfl rfl ?_
      refine fv_iald (ft_d o_SP_makeChanges 33 rfl) rfl sh_292 w.1 ?_
      have w := w.2
      obtain ⟨R1, c2, w⟩ := w
      refine fv_callv (st := []) rfl rfl (ft_mm (pre := [.inl (h 292 x4.toNat), .inr (.inl (h 290 x4.toNat)), .inr (.inr r1)]) rfl) (ft_rnV (K' := k_PS_put) (As := [.inr (.inl (h 290 x4.toNat)), .inl (h 292 x4.toNat)]) (ft_d o_SP_makeChanges 34 rfl) ml_SP_65 li_PS_put.1 li_PS_put.2 lw_PS_put ⟨rfl, rfl, Nat.le_of_ble_eq_true rfl, Nat.le_of_ble_eq_true rfl⟩ hr1 rfl rfl rfl rfl (Nat.le_of_ble_eq_true rfl) c2) (fun h1 hw => ?_)
      have w := w h1 hw
      refine fv_iinc (L' := [some (.inr (.inr 289)), some (.inr (.inr r1)), none, some (.inl x3), some (.inl (ft_add x4 1))]) (ft_d o_SP_makeChanges 35 rfl) rfl rfl (Nat.le_of_ble_eq_true rfl) rfl ?_
      refine fv_goto (pc' := 12) (ft_d o_SP_makeChanges 36 rfl) rfl ?_
      exact w
    · have w := w.2 c
      refine fv_aload_n (ft_d o_SP_makeChanges 16 rfl) rfl rfl ?_
      refine fv_aload_n (ft_d o_SP_makeChanges 17 rfl) rfl rfl ?_
      refine fv_aload_n (ft_d o_SP_makeChanges 18 rfl) rfl rfl ?_
      refine fv_getR (b := 290) (ft_d o_SP_makeChanges 19 rfl) rfl fl_SP_11 sh_289 rfl ly_289_0 ?_
      refine fv_iload (ft_d o_SP_makeChanges 20 rfl) rfl rfl ?_
      refine fv_lald (ft_d o_SP_makeChanges 21 rfl) rfl sh_290 w.1 ?_
      have w := w.2
      obtain ⟨R3, c4, w⟩ := w
      refine fv_calli (st := [.inr (.inr r1)]) (Or.inl rfl) rfl (ft_mm (pre := [.inr (.inl (h 290 x4.toNat)), .inr (.inr r1)]) rfl) (ft_rnV (K' := k_PS_indexOf) (As := [.inr (.inl (h 290 x4.toNat))]) (ft_d o_SP_makeChanges 22 rfl) ml_SP_44 li_PS_indexOf.1 li_PS_indexOf.2 lw_PS_indexOf ⟨rfl, rfl, Nat.le_of_ble_eq_true rfl, Nat.le_of_ble_eq_true rfl⟩ hr1 rfl rfl rfl rfl (Nat.le_of_ble_eq_true rfl) c4) (fun z5 h2 hz hw => ?_)
      have w := w z5 h2 hz hw
      obtain ⟨R6, c7, w⟩ := w
      refine fv_callv (st := []) rfl rfl (ft_mm (pre := [.inl z5, .inr (.inr r1)]) rfl) (ft_rnV (K' := k_PS_removeAt) (As := [.inl z5]) (ft_d o_SP_makeChanges 23 rfl) ml_SP_61 li_PS_removeAt.1 li_PS_removeAt.2 lw_PS_removeAt ⟨rfl, rfl, Nat.le_of_ble_eq_true rfl, Nat.le_of_ble_eq_true rfl⟩ hr1 rfl rfl rfl rfl (Nat.le_of_ble_eq_true rfl) c7) (fun h3 hw => ?_)
      have w := w h3 hw
      refine fv_goto (pc' := 65) (ft_d o_SP_makeChanges 24 rfl) rfl ?_
      refine fv_iinc (L' := [some (.inr (.inr 289)), some (.inr (.inr r1)), none, some (.inl x3), some (.inl (ft_add x4 1))]) (ft_d o_SP_makeChanges 35 rfl) rfl rfl (Nat.le_of_ble_eq_true rfl) rfl ?_
      refine fv_goto (pc' := 12) (ft_d o_SP_makeChanges 36 rfl) rfl ?_
      exact w
