/-! printed by wip/whole/gen/gen10.py: what must hold at each cut point -/
set_option maxRecDepth 20000 in
theorem b_Hi_forget_0  {h : ftH} {R : Option ftV → ftH → Prop} 
    (w : (∀ h1 : ftH, h1 = ft_hs h 23 1 0 → R none h1)) : ft_V k_Hi_forget 0 [some (.inr (.inr 23))] [] h R := by
  refine fv_aload_n (ft_d o_Hi_forget 0 rfl) rfl rfl ?_
  refine fv_iconst (ft_d o_Hi_forget 1 rfl) rfl rfl ?_
  refine fv_putI (ft_d o_Hi_forget 2 rfl) rfl fl_Hi_18 rfl rfl sh_23 rfl ?_
  generalize eh1 : ft_hs h 23 1 0 = h1
  have w := w h1 eh1.symm
  exact fv_return (ft_d o_Hi_forget 3 rfl) rfl w
set_option maxRecDepth 20000 in
theorem b_Hi_save_0 {r1 : Nat} {h : ftH} {R : Option ftV → ftH → Prop} (hr1 : ft_sh r1 = some (.inl 6))
    (w : ((0 ≤ h 23 2 ∧ h 23 2 < 8) ∧ (∃ R2 : Option ftV → ftH → Prop, ft_C k_St_copyFrom [.inr (.inr (25 + 11 * (h 23 2).toNat)), .inr (.inr r1)] h R2 ∧ ∀ h1 : ftH, R2 none h1 → ((8 ≤ ft_add (h1 23 2) 1 → (∀ h2 : ftH, h2 = ft_hs h1 23 2 0 → (∀ h3 : ftH, h3 = ft_hs h2 23 1 (min (ft_add (h2 23 1) 1) 8) → R none h3))) ∧ (¬ (8 ≤ ft_add (h1 23 2) 1) → (∀ h4 : ftH, h4 = ft_hs h1 23 2 (ft_add (h1 23 2) 1) → (∀ h5 : ftH, h5 = ft_hs h4 23 1 (min (ft_add (h4 23 1) 1) 8) → R none h5))))))) : ft_V k_Hi_save 0 [some (.inr (.inr 23)), some (.inr (.inr r1))] [] h R := by
  refine fv_aload_n (ft_d o_Hi_save 0 rfl) rfl rfl ?_
  refine fv_getR (b := 24) (ft_d o_Hi_save 1 rfl) rfl fl_Hi_11 sh_23 rfl ly_23_0 ?_
  refine fv_aload_n (ft_d o_Hi_save 2 rfl) rfl rfl ?_
  refine fv_getI (ft_d o_Hi_save 3 rfl) rfl fl_Hi_22 sh_23 rfl ?_
  have b1 := w.1
  have w := w.2
  refine fv_aald (b := 25 + 11 * (h 23 2).toNat) (ft_d o_Hi_save 4 rfl) rfl sh_24 (Or.inl rfl) b1 (lya_24 b1) ?_
  refine fv_aload_n (ft_d o_Hi_save 5 rfl) rfl rfl ?_
  obtain ⟨R2, c3, w⟩ := w
  refine fv_callv (st := []) rfl rfl (ft_mm (pre := [.inr (.inr r1), .inr (.inr (25 + 11 * (h 23 2).toNat))]) rfl) (ft_rnV (K' := k_St_copyFrom) (As := [.inr (.inr r1)]) (ft_d o_Hi_save 6 rfl) ml_Hi_25 li_St_copyFrom.1 li_St_copyFrom.2 lw_St_copyFrom ⟨rfl, rfl, Nat.le_of_ble_eq_true rfl, Nat.le_of_ble_eq_true rfl⟩ (sha_24 b1) rfl rfl rfl rfl (Nat.le_of_ble_eq_true rfl) c3) (fun h1 hw => ?_)
  have w := w h1 hw
  refine fv_aload_n (ft_d o_Hi_save 7 rfl) rfl rfl ?_
  refine fv_aload_n (ft_d o_Hi_save 8 rfl) rfl rfl ?_
  refine fv_getI (ft_d o_Hi_save 9 rfl) rfl fl_Hi_22 sh_23 rfl ?_
  refine fv_iconst (ft_d o_Hi_save 10 rfl) rfl rfl ?_
  refine fv_iadd (ft_d o_Hi_save 11 rfl) rfl ?_
  refine fv_bipush (ft_d o_Hi_save 12 rfl) rfl rfl ?_
  refine fv_icmp_ge (tgt := 34) (ft_d o_Hi_save 13 rfl) rfl rfl (fun c => ?_) (fun c => ?_)
  · have w := w.1 c
    refine fv_iconst (ft_d o_Hi_save 19 rfl) rfl rfl ?_
    refine fv_putI (ft_d o_Hi_save 20 rfl) rfl fl_Hi_22 rfl rfl sh_23 rfl ?_
    generalize eh2 : ft_hs h1 23 2 0 = h2
    have w := w h2 eh2.symm
    refine fv_aload_n (ft_d o_Hi_save 21 rfl) rfl rfl ?_
    refine fv_aload_n (ft_d o_Hi_save 22 rfl) rfl rfl ?_
    refine fv_getI (ft_d o_Hi_save 23 rfl) rfl fl_Hi_18 sh_23 rfl ?_
    refine fv_iconst (ft_d o_Hi_save 24 rfl) rfl rfl ?_
    refine fv_iadd (ft_d o_Hi_save 25 rfl) rfl ?_
    refine fv_bipush (ft_d o_Hi_save 26 rfl) rfl rfl ?_
    refine fv_min (ft_d o_Hi_save 27 rfl) rfl ml_Hi_29 (Nat.le_of_ble_eq_true rfl) (Nat.le_of_ble_eq_true rfl) (Nat.le_of_ble_eq_true rfl) ?_
    refine fv_putI (ft_d o_Hi_save 28 rfl) rfl fl_Hi_18 rfl rfl sh_23 rfl ?_
    generalize eh3 : ft_hs h2 23 1 (min (ft_add (h2 23 1) 1) 8) = h3
    have w := w h3 eh3.symm
    exact fv_return (ft_d o_Hi_save 29 rfl) rfl w
  · have w := w.2 c
    refine fv_aload_n (ft_d o_Hi_save 14 rfl) rfl rfl ?_
    refine fv_getI (ft_d o_Hi_save 15 rfl) rfl fl_Hi_22 sh_23 rfl ?_
    refine fv_iconst (ft_d o_Hi_save 16 rfl) rfl rfl ?_
    refine fv_iadd (ft_d o_Hi_save 17 rfl) rfl ?_
    refine fv_goto (pc' := 35) (ft_d o_Hi_save 18 rfl) rfl ?_
    refine fv_putI (ft_d o_Hi_save 20 rfl) rfl fl_Hi_22 rfl rfl sh_23 rfl ?_
    generalize eh4 : ft_hs h1 23 2 (ft_add (h1 23 2) 1) = h4
    have w := w h4 eh4.symm
    refine fv_aload_n (ft_d o_Hi_save 21 rfl) rfl rfl ?_
    refine fv_aload_n (ft_d o_Hi_save 22 rfl) rfl rfl ?_
    refine fv_getI (ft_d o_Hi_save 23 rfl) rfl fl_Hi_18 sh_23 rfl ?_
    refine fv_iconst (ft_d o_Hi_save 24 rfl) rfl rfl ?_
    refine fv_iadd (ft_d o_Hi_save 25 rfl) rfl ?_
    refine fv_bipush (ft_d o_Hi_save 26 rfl) rfl rfl ?_
    refine fv_min (ft_d o_Hi_save 27 rfl) rfl ml_Hi_29 (Nat.le_of_ble_eq_true rfl) (Nat.le_of_ble_eq_true rfl) (Nat.le_of_ble_eq_true rfl) ?_
    refine fv_putI (ft_d o_Hi_save 28 rfl) rfl fl_Hi_18 rfl rfl sh_23 rfl ?_
    generalize eh5 : ft_hs h4 23 1 (min (ft_add (h4 23 1) 1) 8) = h5
    have w := w h5 eh5.symm
    exact fv_return (ft_d o_Hi_save 29 rfl) rfl w
set_option maxRecDepth 20000 in
theorem b_Hi_restore_0 {r1 : Nat} {h : ftH} {R : Option ftV → ftH → Prop} (hr1 : ft_sh r1 = some (.inl 6))
    (w : ((¬ (h 23 1 = 0) → ((h 23 2 ≤ 0 → (∀ h1 : ftH, h1 = ft_hs h 23 2 7 → ((0 ≤ h1 23 2 ∧ h1 23 2 < 8) ∧ (∃ R2 : Option ftV → ftH → Prop, ft_C k_St_copyFrom [.inr (.inr r1), .inr (.inr (25 + 11 * (h1 23 2).toNat))] h1 R2 ∧ ∀ h2 : ftH, R2 none h2 → (∀ h3 : ftH, h3 = ft_hs h2 23 1 (ft_sub (h2 23 1) 1) → R (some (.inl 1)) h3))))) ∧ (¬ (h 23 2 ≤ 0) → (∀ h4 : ftH, h4 = ft_hs h 23 2 (ft_sub (h 23 2) 1) → ((0 ≤ h4 23 2 ∧ h4 23 2 < 8) ∧ (∃ R5 : Option ftV → ftH → Prop, ft_C k_St_copyFrom [.inr (.inr r1), .inr (.inr (25 + 11 * (h4 23 2).toNat))] h4 R5 ∧ ∀ h5 : ftH, R5 none h5 → (∀ h6 : ftH, h6 = ft_hs h5 23 1 (ft_sub (h5 23 1) 1) → R (some (.inl 1)) h6))))))) ∧ (h 23 1 = 0 → R (some (.inl 0)) h))) : ft_V k_Hi_restore 0 [some (.inr (.inr 23)), some (.inr (.inr r1))] [] h R := by
  refine fv_aload_n (ft_d o_Hi_restore 0 rfl) rfl rfl ?_
  refine fv_getI (ft_d o_Hi_restore 1 rfl) rfl fl_Hi_18 sh_23 rfl ?_
  refine fv_if_ne (tgt := 9) (ft_d o_Hi_restore 2 rfl) rfl rfl (fun c => ?_) (fun c => ?_)
  · have w := w.1 c
    refine fv_aload_n (ft_d o_Hi_restore 5 rfl) rfl rfl ?_
    refine fv_aload_n (ft_d o_Hi_restore 6 rfl) rfl rfl ?_
    refine fv_getI (ft_d o_Hi_restore 7 rfl) rfl fl_Hi_22 sh_23 rfl ?_
    refine fv_if_le (tgt := 26) (ft_d o_Hi_restore 8 rfl) rfl rfl (fun c => ?_) (fun c => ?_)
    · have w := w.1 c
      refine fv_bipush (ft_d o_Hi_restore 14 rfl) rfl rfl ?_
      refine fv_putI (ft_d o_Hi_restore 15 rfl) rfl fl_Hi_22 rfl rfl sh_23 rfl ?_
      generalize eh1 : ft_hs h 23 2 7 = h1
      have w := w h1 eh1.symm
      refine fv_aload_n (ft_d o_Hi_restore 16 rfl) rfl rfl ?_
      refine fv_aload_n (ft_d o_Hi_restore 17 rfl) rfl rfl ?_
      refine fv_getR (b := 24) (ft_d o_Hi_restore 18 rfl) rfl fl_Hi_11 sh_23 rfl ly_23_0 ?_
      refine fv_aload_n (ft_d o_Hi_restore 19 rfl) rfl rfl ?_
      refine fv_getI (ft_d o_Hi_restore 20 rfl) rfl fl_Hi_22 sh_23 rfl ?_
      have b1 := w.1
      have w := w.2
      refine fv_aald (b := 25 + 11 * (h1 23 2).toNat) (ft_d o_Hi_restore 21 rfl) rfl sh_24 (Or.inl rfl) b1 (lya_24 b1) ?_
      obtain ⟨R2, c3, w⟩ := w
      refine fv_callv (st := []) rfl rfl (ft_mm (pre := [.inr (.inr (25 + 11 * (h1 23 2).toNat)), .inr (.inr r1)]) rfl) (ft_rnV (K' := k_St_copyFrom) (As := [.inr (.inr (25 + 11 * (h1 23 2).toNat))]) (ft_d o_Hi_restore 22 rfl) ml_Hi_25 li_St_copyFrom.1 li_St_copyFrom.2 lw_St_copyFrom ⟨rfl, rfl, Nat.le_of_ble_eq_true rfl, Nat.le_of_ble_eq_true rfl⟩ hr1 rfl rfl rfl rfl (Nat.le_of_ble_eq_true rfl) c3) (fun h2 hw => ?_)
      have w := w h2 hw
      refine fv_aload_n (ft_d o_Hi_restore 23 rfl) rfl rfl ?_
      refine fv_dup (ft_d o_Hi_restore 24 rfl) rfl rfl ?_
      refine fv_getI (ft_d o_Hi_restore 25 rfl) rfl fl_Hi_18 sh_23 rfl ?_
      refine fv_iconst (ft_d o_Hi_restore 26 rfl) rfl rfl ?_
      refine fv_isub (ft_d o_Hi_restore 27 rfl) rfl ?_
      refine fv_putI (ft_d o_Hi_restore 28 rfl) rfl fl_Hi_18 rfl rfl sh_23 rfl ?_
      generalize eh3 : ft_hs h2 23 1 (ft_sub (h2 23 1) 1) = h3
      have w := w h3 eh3.symm
      refine fv_iconst (ft_d o_Hi_restore 29 rfl) rfl rfl ?_
      exact fv_zreturn (ft_d o_Hi_restore 30 rfl) rfl (Or.inr rfl) w
    · have w := w.2 c
      refine fv_aload_n (ft_d o_Hi_restore 9 rfl) rfl rfl ?_
      refine fv_getI (ft_d o_Hi_restore 10 rfl) rfl fl_Hi_22 sh_23 rfl ?_
      refine fv_iconst (ft_d o_Hi_restore 11 rfl) rfl rfl ?_
      refine fv_isub (ft_d o_Hi_restore 12 rfl) rfl ?_
      refine fv_goto (pc' := 28) (ft_d o_Hi_restore 13 rfl) rfl ?_
      refine fv_putI (ft_d o_Hi_restore 15 rfl) rfl fl_Hi_22 rfl rfl sh_23 rfl ?_
      generalize eh4 : ft_hs h 23 2 (ft_sub (h 23 2) 1) = h4
      have w := w h4 eh4.symm
      refine fv_aload_n (ft_d o_Hi_restore 16 rfl) rfl rfl ?_
      refine fv_aload_n (ft_d o_Hi_restore 17 rfl) rfl rfl ?_
      refine fv_getR (b := 24) (ft_d o_Hi_restore 18 rfl) rfl fl_Hi_11 sh_23 rfl ly_23_0 ?_
      refine fv_aload_n (ft_d o_Hi_restore 19 rfl) rfl rfl ?_
      refine fv_getI (ft_d o_Hi_restore 20 rfl) rfl fl_Hi_22 sh_23 rfl ?_
      have b4 := w.1
      have w := w.2
      refine fv_aald (b := 25 + 11 * (h4 23 2).toNat) (ft_d o_Hi_restore 21 rfl) rfl sh_24 (Or.inl rfl) b4 (lya_24 b4) ?_
      obtain ⟨R5, c6, w⟩ := w
      refine fv_callv (st := []) rfl rfl (ft_mm (pre := [.inr (.inr (25 + 11 * (h4 23 2).toNat)), .inr (.inr r1)]) rfl) (ft_rnV (K' := k_St_copyFrom) (As := [.inr (.inr (25 + 11 * (h4 23 2).toNat))]) (ft_d o_Hi_restore 22 rfl) ml_Hi_25 li_St_copyFrom.1 li_St_copyFrom.2 lw_St_copyFrom ⟨rfl, rfl, Nat.le_of_ble_eq_true rfl, Nat.le_of_ble_eq_true rfl⟩ hr1 rfl rfl rfl rfl (Nat.le_of_ble_eq_true rfl) c6) (fun h5 hw => ?_)
      have w := w h5 hw
      refine fv_aload_n (ft_d o_Hi_restore 23 rfl) rfl rfl ?_
      refine fv_dup (ft_d o_Hi_restore 24 rfl) rfl rfl ?_
      refine fv_getI (ft_d o_Hi_restore 25 rfl) rfl fl_Hi_18 sh_23 rfl ?_
      refine fv_iconst (ft_d o_Hi_restore 26 rfl) rfl rfl ?_
      refine fv_isub (ft_d o_Hi_restore 27 rfl) rfl ?_
      refine fv_putI (ft_d o_Hi_restore 28 rfl) rfl fl_Hi_18 rfl rfl sh_23 rfl ?_
      generalize eh6 : ft_hs h5 23 1 (ft_sub (h5 23 1) 1) = h6
      have w := w h6 eh6.symm
      refine fv_iconst (ft_d o_Hi_restore 29 rfl) rfl rfl ?_
      exact fv_zreturn (ft_d o_Hi_restore 30 rfl) rfl (Or.inr rfl) w
  · have w := w.2 c
    refine fv_iconst (ft_d o_Hi_restore 3 rfl) rfl rfl ?_
    exact fv_zreturn (ft_d o_Hi_restore 4 rfl) rfl (Or.inl rfl) w
set_option maxRecDepth 20000 in
theorem b_St_reset_0 {r0 : Nat} {h : ftH} {R : Option ftV → ftH → Prop} (hr0 : ft_sh r0 = some (.inl 6))
    (w : (∀ h1 : ftH, h1 = ft_hs h r0 0 8 → (∀ h2 : ftH, h2 = ft_hs h1 (r0 + 1) 2 0 → (∀ h3 : ftH, h3 = ft_hs h2 (r0 + 4) 2 0 → (∀ h4 : ftH, h4 = ft_hs h3 (r0 + 7) 2 0 → ft_V k_St_reset 32 [some (.inr (.inr r0)), some (.inl 0)] [] h4 R))))) : ft_V k_St_reset 0 [some (.inr (.inr r0)), none] [] h R := by
  refine fv_aload_n (ft_d o_St_reset 0 rfl) rfl rfl ?_
  refine fv_bipush (ft_d o_St_reset 1 rfl) rfl rfl ?_
  refine fv_putI (ft_d o_St_reset 2 rfl) rfl fl_St_9 rfl rfl hr0 rfl ?_
  generalize eh1 : ft_hs h r0 0 8 = h1
  have w := w h1 eh1.symm
  refine fv_aload_n (ft_d o_St_reset 3 rfl) rfl rfl ?_
  refine fv_getR (b := r0 + 1) (ft_d o_St_reset 4 rfl) rfl fl_St_20 hr0 rfl (lyc_6_1 hr0) ?_
  refine fv_iconst (ft_d o_St_reset 5 rfl) rfl rfl ?_
  refine fv_putI (ft_d o_St_reset 6 rfl) rfl fl_St_38 rfl rfl (shc_6_1 hr0) rfl ?_
  generalize eh2 : ft_hs h1 (r0 + 1) 2 0 = h2
  have w := w h2 eh2.symm
  refine fv_aload_n (ft_d o_St_reset 7 rfl) rfl rfl ?_
  refine fv_getR (b := r0 + 4) (ft_d o_St_reset 8 rfl) rfl fl_St_24 hr0 rfl (lyc_6_2 hr0) ?_
  refine fv_iconst (ft_d o_St_reset 9 rfl) rfl rfl ?_
  refine fv_putI (ft_d o_St_reset 10 rfl) rfl fl_St_38 rfl rfl (shc_6_2 hr0) rfl ?_
  generalize eh3 : ft_hs h2 (r0 + 4) 2 0 = h3
  have w := w h3 eh3.symm
  refine fv_aload_n (ft_d o_St_reset 11 rfl) rfl rfl ?_
  refine fv_getR (b := r0 + 7) (ft_d o_St_reset 12 rfl) rfl fl_St_30 hr0 rfl (lyc_6_3 hr0) ?_
  refine fv_iconst (ft_d o_St_reset 13 rfl) rfl rfl ?_
  refine fv_putI (ft_d o_St_reset 14 rfl) rfl fl_St_41 rfl rfl (shc_6_3 hr0) rfl ?_
  generalize eh4 : ft_hs h3 (r0 + 7) 2 0 = h4
  have w := w h4 eh4.symm
  refine fv_iconst (ft_d o_St_reset 15 rfl) rfl rfl ?_
  refine fv_istore_n (L' := [some (.inr (.inr r0)), some (.inl 0)]) (ft_d o_St_reset 16 rfl) rfl (Nat.le_of_ble_eq_true rfl) rfl ?_
  exact w
set_option maxRecDepth 20000 in
theorem b_St_reset_32 {r0 : Nat} {x1 : Int} {h : ftH} {R : Option ftV → ftH → Prop} (hr0 : ft_sh r0 = some (.inl 6))
    (w : ((5 ≤ x1 → R none h) ∧ (¬ (5 ≤ x1) → ((0 ≤ x1 ∧ x1 < 5) ∧ (∀ h1 : ftH, h1 = ft_hs h (r0 + 10) x1.toNat 0 → ft_V k_St_reset 32 [some (.inr (.inr r0)), some (.inl (ft_add x1 1))] [] h1 R))))) : ft_V k_St_reset 32 [some (.inr (.inr r0)), some (.inl x1)] [] h R := by
  refine fv_iload_n (ft_d o_St_reset 17 rfl) rfl rfl ?_
  refine fv_iconst (ft_d o_St_reset 18 rfl) rfl rfl ?_
  refine fv_icmp_ge (tgt := 50) (ft_d o_St_reset 19 rfl) rfl rfl (fun c => ?_) (fun c => ?_)
  · have w := w.1 c
    exact fv_return (ft_d o_St_reset 27 rfl) rfl w
  · have w := w.2 c
    refine fv_aload_n (ft_d o_St_reset 20 rfl) rfl rfl ?_
    refine fv_getR (b := r0 + 10) (ft_d o_St_reset 21 rfl) rfl fl_St_34 hr0 rfl (lyc_6_4 hr0) ?_
    refine fv_iload_n (ft_d o_St_reset 22 rfl) rfl rfl ?_
    refine fv_lconst (z := 0) (ft_d o_St_reset 23 rfl) rfl rfl ?_
    refine fv_last (ft_d o_St_reset 24 rfl) rfl (shc_6_4 hr0) w.1 ?_
    have w := w.2
    generalize eh1 : ft_hs h (r0 + 10) x1.toNat 0 = h1
    have w := w h1 eh1.symm
    refine fv_iinc (L' := [some (.inr (.inr r0)), some (.inl (ft_add x1 1))]) (ft_d o_St_reset 25 rfl) rfl rfl (Nat.le_of_ble_eq_true rfl) rfl ?_
    refine fv_goto (pc' := 32) (ft_d o_St_reset 26 rfl) rfl ?_
    exact w
set_option maxRecDepth 20000 in
theorem b_St_copyFrom_0 {r0 : Nat} {r1 : Nat} {h : ftH} {R : Option ftV → ftH → Prop} (hr0 : ft_sh r0 = some (.inl 6)) (hr1 : ft_sh r1 = some (.inl 6))
    (w : (∀ h1 : ftH, h1 = ft_hs h r0 0 (h r1 0) → (∃ R1 : Option ftV → ftH → Prop, ft_C k_PS_copyFrom [.inr (.inr (r0 + 1)), .inr (.inr (r1 + 1))] h1 R1 ∧ ∀ h2 : ftH, R1 none h2 → (∃ R3 : Option ftV → ftH → Prop, ft_C k_PS_copyFrom [.inr (.inr (r0 + 4)), .inr (.inr (r1 + 4))] h2 R3 ∧ ∀ h3 : ftH, R3 none h3 → (∃ R5 : Option ftV → ftH → Prop, ft_C k_TL_copyFrom [.inr (.inr (r0 + 7)), .inr (.inr (r1 + 7))] h3 R5 ∧ ∀ h4 : ftH, R5 none h4 → ((0 ≤ (0 : Int) ∧ 0 ≤ (0 : Int) ∧ 0 ≤ (5 : Int) ∧ (0 : Int) + (5 : Int) ≤ 5 ∧ (0 : Int) + (5 : Int) ≤ 5) ∧ (∀ h5 : ftH, h5 = ft_cp h4 (r1 + 10) (0 : Int).toNat (r0 + 10) (0 : Int).toNat (5 : Int).toNat → R none h5))))))) : ft_V k_St_copyFrom 0 [some (.inr (.inr r0)), some (.inr (.inr r1))] [] h R := by
  refine fv_aload_n (ft_d o_St_copyFrom 0 rfl) rfl rfl ?_
  refine fv_aload_n (ft_d o_St_copyFrom 1 rfl) rfl rfl ?_
  refine fv_getI (ft_d o_St_copyFrom 2 rfl) rfl fl_St_9 hr1 rfl ?_
  refine fv_putI (ft_d o_St_copyFrom 3 rfl) rfl fl_St_9 rfl rfl hr0 rfl ?_
  generalize eh1 : ft_hs h r0 0 (h r1 0) = h1
  have w := w h1 eh1.symm
  refine fv_aload_n (ft_d o_St_copyFrom 4 rfl) rfl rfl ?_
  refine fv_getR (b := r0 + 1) (ft_d o_St_copyFrom 5 rfl) rfl fl_St_20 hr0 rfl (lyc_6_1 hr0) ?_
  refine fv_aload_n (ft_d o_St_copyFrom 6 rfl) rfl rfl ?_
  refine fv_getR (b := r1 + 1) (ft_d o_St_copyFrom 7 rfl) rfl fl_St_20 hr1 rfl (lyc_6_1 hr1) ?_
  obtain ⟨R1, c2, w⟩ := w
  refine fv_callv (st := []) rfl rfl (ft_mm (pre := [.inr (.inr (r1 + 1)), .inr (.inr (r0 + 1))]) rfl) (ft_rnV (K' := k_PS_copyFrom) (As := [.inr (.inr (r1 + 1))]) (ft_d o_St_copyFrom 8 rfl) ml_St_42 li_PS_copyFrom.1 li_PS_copyFrom.2 lw_PS_copyFrom ⟨rfl, rfl, Nat.le_of_ble_eq_true rfl, Nat.le_of_ble_eq_true rfl⟩ (shc_6_1 hr0) rfl rfl rfl rfl (Nat.le_of_ble_eq_true rfl) c2) (fun h2 hw => ?_)
  have w := w h2 hw
  refine fv_aload_n (ft_d o_St_copyFrom 9 rfl) rfl rfl ?_
  refine fv_getR (b := r0 + 4) (ft_d o_St_copyFrom 10 rfl) rfl fl_St_24 hr0 rfl (lyc_6_2 hr0) ?_
  refine fv_aload_n (ft_d o_St_copyFrom 11 rfl) rfl rfl ?_
  refine fv_getR (b := r1 + 4) (ft_d o_St_copyFrom 12 rfl) rfl fl_St_24 hr1 rfl (lyc_6_2 hr1) ?_
  obtain ⟨R3, c4, w⟩ := w
  refine fv_callv (st := []) rfl rfl (ft_mm (pre := [.inr (.inr (r1 + 4)), .inr (.inr (r0 + 4))]) rfl) (ft_rnV (K' := k_PS_copyFrom) (As := [.inr (.inr (r1 + 4))]) (ft_d o_St_copyFrom 13 rfl) ml_St_42 li_PS_copyFrom.1 li_PS_copyFrom.2 lw_PS_copyFrom ⟨rfl, rfl, Nat.le_of_ble_eq_true rfl, Nat.le_of_ble_eq_true rfl⟩ (shc_6_2 hr0) rfl rfl rfl rfl (Nat.le_of_ble_eq_true rfl) c4) (fun h3 hw => ?_)
  have w := w h3 hw
  refine fv_aload_n (ft_d o_St_copyFrom 14 rfl) rfl rfl ?_
  refine fv_getR (b := r0 + 7) (ft_d o_St_copyFrom 15 rfl) rfl fl_St_30 hr0 rfl (lyc_6_3 hr0) ?_
  refine fv_aload_n (ft_d o_St_copyFrom 16 rfl) rfl rfl ?_
  refine fv_getR (b := r1 + 7) (ft_d o_St_copyFrom 17 rfl) rfl fl_St_30 hr1 rfl (lyc_6_3 hr1) ?_
  obtain ⟨R5, c6, w⟩ := w
  refine fv_callv (st := []) rfl rfl (ft_mm (pre := [.inr (.inr (r1 + 7)), .inr (.inr (r0 + 7))]) rfl) (ft_rnV (K' := k_TL_copyFrom) (As := [.inr (.inr (r1 + 7))]) (ft_d o_St_copyFrom 18 rfl) ml_St_46 li_TL_copyFrom.1 li_TL_copyFrom.2 lw_TL_copyFrom ⟨rfl, rfl, Nat.le_of_ble_eq_true rfl, Nat.le_of_ble_eq_true rfl⟩ (shc_6_3 hr0) rfl rfl rfl rfl (Nat.le_of_ble_eq_true rfl) c6) (fun h4 hw => ?_)
  have w := w h4 hw
  refine fv_aload_n (ft_d o_St_copyFrom 19 rfl) rfl rfl ?_
  refine fv_getR (b := r1 + 10) (ft_d o_St_copyFrom 20 rfl) rfl fl_St_34 hr1 rfl (lyc_6_4 hr1) ?_
  refine fv_iconst (ft_d o_St_copyFrom 21 rfl) rfl rfl ?_
  refine fv_aload_n (ft_d o_St_copyFrom 22 rfl) rfl rfl ?_
  refine fv_getR (b := r0 + 10) (ft_d o_St_copyFrom 23 rfl) rfl fl_St_34 hr0 rfl (lyc_6_4 hr0) ?_
  refine fv_iconst (ft_d o_St_copyFrom 24 rfl) rfl rfl ?_
  refine fv_iconst (ft_d o_St_copyFrom 25 rfl) rfl rfl ?_
  refine fv_cpyL (ft_d o_St_copyFrom 26 rfl) rfl ml_St_49 (Nat.le_of_ble_eq_true rfl) (Nat.le_of_ble_eq_true rfl) (Nat.le_of_ble_eq_true rfl) (shc_6_4 hr1) (shc_6_4 hr0) w.1 ?_
  have w := w.2
  generalize eh5 : ft_cp h4 (r1 + 10) (0 : Int).toNat (r0 + 10) (0 : Int).toNat (5 : Int).toNat = h5
  have w := w h5 eh5.symm
  exact fv_return (ft_d o_St_copyFrom 27 rfl) rfl w
set_option maxRecDepth 20000 in
theorem b_St_emptyHardware_0 {r0 : Nat} {h : ftH} {R : Option ftV → ftH → Prop} (hr0 : ft_sh r0 = some (.inl 6))
    (w : ((h (r0 + 4) 2 ≤ 0 → R none h) ∧ (¬ (h (r0 + 4) 2 ≤ 0) → (∀ h1 : ftH, h1 = ft_hs h (r0 + 10) 2 (ft_addL (h (r0 + 10) 2) (h (r0 + 4) 2)) → (∀ h2 : ftH, h2 = ft_hs h1 (r0 + 10) 4 (ft_addL (h1 (r0 + 10) 4) 1) → (∀ h3 : ftH, h3 = ft_hs h2 (r0 + 4) 2 0 → R none h3)))))) : ft_V k_St_emptyHardware 0 [some (.inr (.inr r0))] [] h R := by
  refine fv_aload_n (ft_d o_St_emptyHardware 0 rfl) rfl rfl ?_
  refine fv_getR (b := r0 + 4) (ft_d o_St_emptyHardware 1 rfl) rfl fl_St_24 hr0 rfl (lyc_6_2 hr0) ?_
  refine fv_getI (ft_d o_St_emptyHardware 2 rfl) rfl fl_St_38 (shc_6_2 hr0) rfl ?_
  refine fv_if_le (tgt := 45) (ft_d o_St_emptyHardware 3 rfl) rfl rfl (fun c => ?_) (fun c => ?_)
  · have w := w.1 c
    exact fv_return (ft_d o_St_emptyHardware 27 rfl) rfl w
  · have w := w.2 c
    refine fv_aload_n (ft_d o_St_emptyHardware 4 rfl) rfl rfl ?_
    refine fv_getR (b := r0 + 10) (ft_d o_St_emptyHardware 5 rfl) rfl fl_St_34 hr0 rfl (lyc_6_4 hr0) ?_
    refine fv_iconst (ft_d o_St_emptyHardware 6 rfl) rfl rfl ?_
    refine fv_dup2 (ft_d o_St_emptyHardware 7 rfl) rfl rfl rfl ?_
    refine fv_laldj (j := 2) (ft_d o_St_emptyHardware 8 rfl) rfl (shc_6_4 hr0) ⟨by decide, by decide⟩ rfl ?_
    refine fv_aload_n (ft_d o_St_emptyHardware 9 rfl) rfl rfl ?_
    refine fv_getR (b := r0 + 4) (ft_d o_St_emptyHardware 10 rfl) rfl fl_St_24 hr0 rfl (lyc_6_2 hr0) ?_
    refine fv_getI (ft_d o_St_emptyHardware 11 rfl) rfl fl_St_38 (shc_6_2 hr0) rfl ?_
    refine fv_i2l (ft_d o_St_emptyHardware 12 rfl) rfl ?_
    refine fv_ladd (ft_d o_St_emptyHardware 13 rfl) rfl ?_
    refine fv_lastj (j := 2) (ft_d o_St_emptyHardware 14 rfl) rfl (shc_6_4 hr0) ⟨by decide, by decide⟩ rfl ?_
    generalize eh1 : ft_hs h (r0 + 10) 2 (ft_addL (h (r0 + 10) 2) (h (r0 + 4) 2)) = h1
    have w := w h1 eh1.symm
    refine fv_aload_n (ft_d o_St_emptyHardware 15 rfl) rfl rfl ?_
    refine fv_getR (b := r0 + 10) (ft_d o_St_emptyHardware 16 rfl) rfl fl_St_34 hr0 rfl (lyc_6_4 hr0) ?_
    refine fv_iconst (ft_d o_St_emptyHardware 17 rfl) rfl rfl ?_
    refine fv_dup2 (ft_d o_St_emptyHardware 18 rfl) rfl rfl rfl ?_
    refine fv_laldj (j := 4) (ft_d o_St_emptyHardware 19 rfl) rfl (shc_6_4 hr0) ⟨by decide, by decide⟩ rfl ?_
    refine fv_lconst (z := 1) (ft_d o_St_emptyHardware 20 rfl) rfl rfl ?_
    refine fv_ladd (ft_d o_St_emptyHardware 21 rfl) rfl ?_
    refine fv_lastj (j := 4) (ft_d o_St_emptyHardware 22 rfl) rfl (shc_6_4 hr0) ⟨by decide, by decide⟩ rfl ?_
    generalize eh2 : ft_hs h1 (r0 + 10) 4 (ft_addL (h1 (r0 + 10) 4) 1) = h2
    have w := w h2 eh2.symm
    refine fv_aload_n (ft_d o_St_emptyHardware 23 rfl) rfl rfl ?_
    refine fv_getR (b := r0 + 4) (ft_d o_St_emptyHardware 24 rfl) rfl fl_St_24 hr0 rfl (lyc_6_2 hr0) ?_
    refine fv_iconst (ft_d o_St_emptyHardware 25 rfl) rfl rfl ?_
    refine fv_putI (ft_d o_St_emptyHardware 26 rfl) rfl fl_St_38 rfl rfl (shc_6_2 hr0) rfl ?_
    generalize eh3 : ft_hs h2 (r0 + 4) 2 0 = h3
    have w := w h3 eh3.symm
    exact fv_return (ft_d o_St_emptyHardware 27 rfl) rfl w
set_option maxRecDepth 20000 in
theorem b_St_routeChanged_0 {r0 : Nat} {x1 : Int} {h : ftH} {R : Option ftV → ftH → Prop} (hr0 : ft_sh r0 = some (.inl 6))
    (w : (∀ n1 : Int, n1 = h (r0 + 10) 2 → (∀ h1 : ftH, h1 = ft_hs h (r0 + 10) 3 (ft_addL (h (r0 + 10) 3) 1) → (∃ R2 : Option ftV → ftH → Prop, ft_C k_PS_removeInside [.inr (.inr (r0 + 4)), .inr (.inl x1)] h1 R2 ∧ ∀ (z4 : Int) (h2 : ftH), ft_in z4 → R2 (some (.inl z4)) h2 → (∀ h3 : ftH, h3 = ft_hs h2 (r0 + 10) 2 (ft_addL (h1 (r0 + 10) 2) z4) → (∃ R5 : Option ftV → ftH → Prop, ft_C k_PS_hasProperlyAround [.inr (.inr (r0 + 4)), .inr (.inl x1)] h3 R5 ∧ ∀ (z7 : Int) (h4 : ftH), ft_in z7 → R5 (some (.inl z7)) h4 → ((z7 = 0 → R (some (.inl (ft_l2i (ft_subL (h4 (r0 + 10) 2) n1)))) h4) ∧ (¬ (z7 = 0) → ((0 ≤ h4 r0 0 ∧ h4 r0 0 ≤ 1000) ∧ ((2 * h4 r0 0 ≤ h4 (r0 + 4) 2 → (∃ R10 : Option ftV → ftH → Prop, ft_C k_St_emptyHardware [.inr (.inr r0)] h4 R10 ∧ ∀ h5 : ftH, R10 none h5 → R (some (.inl (ft_l2i (ft_subL (h5 (r0 + 10) 2) n1)))) h5)) ∧ (¬ (2 * h4 r0 0 ≤ h4 (r0 + 4) 2) → (∃ R12 : Option ftV → ftH → Prop, ft_C k_PS_put [.inr (.inr (r0 + 4)), .inr (.inl x1), .inl 16] h4 R12 ∧ ∀ h6 : ftH, R12 none h6 → (∀ h7 : ftH, h7 = ft_hs h6 (r0 + 10) 2 (ft_addL (h6 (r0 + 10) 2) 1) → R (some (.inl (ft_l2i (ft_subL (h7 (r0 + 10) 2) n1)))) h7))))))))))))) : ft_V k_St_routeChanged 0 [some (.inr (.inr r0)), some (.inr (.inl x1)), none, none, none] [] h R := by
  refine fv_aload_n (ft_d o_St_routeChanged 0 rfl) rfl rfl ?_
  refine fv_getR (b := r0 + 10) (ft_d o_St_routeChanged 1 rfl) rfl fl_St_34 hr0 rfl (lyc_6_4 hr0) ?_
  refine fv_iconst (ft_d o_St_routeChanged 2 rfl) rfl rfl ?_
  refine fv_laldj (j := 2) (ft_d o_St_routeChanged 3 rfl) rfl (shc_6_4 hr0) ⟨by decide, by decide⟩ rfl ?_
  generalize en1 : h (r0 + 10) 2 = n1
  have w := w n1 en1.symm
  refine fv_lstore_n (L' := [some (.inr (.inr r0)), some (.inr (.inl x1)), none, some (.inr (.inl n1)), none]) (ft_d o_St_routeChanged 4 rfl) rfl (Nat.le_of_ble_eq_true rfl) rfl ?_
  refine fv_aload_n (ft_d o_St_routeChanged 5 rfl) rfl rfl ?_
  refine fv_getR (b := r0 + 10) (ft_d o_St_routeChanged 6 rfl) rfl fl_St_34 hr0 rfl (lyc_6_4 hr0) ?_
  refine fv_iconst (ft_d o_St_routeChanged 7 rfl) rfl rfl ?_
  refine fv_dup2 (ft_d o_St_routeChanged 8 rfl) rfl rfl rfl ?_
  refine fv_laldj (j := 3) (ft_d o_St_routeChanged 9 rfl) rfl (shc_6_4 hr0) ⟨by decide, by decide⟩ rfl ?_
  refine fv_lconst (z := 1) (ft_d o_St_routeChanged 10 rfl) rfl rfl ?_
  refine fv_ladd (ft_d o_St_routeChanged 11 rfl) rfl ?_
  refine fv_lastj (j := 3) (ft_d o_St_routeChanged 12 rfl) rfl (shc_6_4 hr0) ⟨by decide, by decide⟩ rfl ?_
  generalize eh1 : ft_hs h (r0 + 10) 3 (ft_addL (h (r0 + 10) 3) 1) = h1
  have w := w h1 eh1.symm
  refine fv_aload_n (ft_d o_St_routeChanged 13 rfl) rfl rfl ?_
  refine fv_getR (b := r0 + 10) (ft_d o_St_routeChanged 14 rfl) rfl fl_St_34 hr0 rfl (lyc_6_4 hr0) ?_
  refine fv_iconst (ft_d o_St_routeChanged 15 rfl) rfl rfl ?_
  refine fv_dup2 (ft_d o_St_routeChanged 16 rfl) rfl rfl rfl ?_
  refine fv_laldj (j := 2) (ft_d o_St_routeChanged 17 rfl) rfl (shc_6_4 hr0) ⟨by decide, by decide⟩ rfl ?_
  refine fv_aload_n (ft_d o_St_routeChanged 18 rfl) rfl rfl ?_
  refine fv_getR (b := r0 + 4) (ft_d o_St_routeChanged 19 rfl) rfl fl_St_24 hr0 rfl (lyc_6_2 hr0) ?_
  refine fv_lload_n (ft_d o_St_routeChanged 20 rfl) rfl rfl ?_
  obtain ⟨R2, c3, w⟩ := w
  refine fv_calli (st := [.inr (.inl (h1 (r0 + 10) 2)), .inl 2, .inr (.inr (r0 + 10))]) (Or.inl rfl) rfl (ft_mm (pre := [.inr (.inl x1), .inr (.inr (r0 + 4))]) rfl) (ft_rnV (K' := k_PS_removeInside) (As := [.inr (.inl x1)]) (ft_d o_St_routeChanged 21 rfl) ml_St_55 li_PS_removeInside.1 li_PS_removeInside.2 lw_PS_removeInside ⟨rfl, rfl, Nat.le_of_ble_eq_true rfl, Nat.le_of_ble_eq_true rfl⟩ (shc_6_2 hr0) rfl rfl rfl rfl (Nat.le_of_ble_eq_true rfl) c3) (fun z4 h2 hz hw => ?_)
  have w := w z4 h2 hz hw
  refine fv_i2l (ft_d o_St_routeChanged 22 rfl) rfl ?_
  refine fv_ladd (ft_d o_St_routeChanged 23 rfl) rfl ?_
  refine fv_lastj (j := 2) (ft_d o_St_routeChanged 24 rfl) rfl (shc_6_4 hr0) ⟨by decide, by decide⟩ rfl ?_
  generalize eh3 : ft_hs h2 (r0 + 10) 2 (ft_addL (h1 (r0 + 10) 2) z4) = h3
  have w := w h3 eh3.symm
  refine fv_aload_n (ft_d o_St_routeChanged 25 rfl) rfl rfl ?_
  refine fv_getR (b := r0 + 4) (ft_d o_St_routeChanged 26 rfl) rfl fl_St_24 hr0 rfl (lyc_6_2 hr0) ?_
  refine fv_lload_n (ft_d o_St_routeChanged 27 rfl) rfl rfl ?_
  obtain ⟨R5, c6, w⟩ := w
  refine fv_calli (st := []) (Or.inr rfl) rfl (ft_mm (pre := [.inr (.inl x1), .inr (.inr (r0 + 4))]) rfl) (ft_rnV (K' := k_PS_hasProperlyAround) (As := [.inr (.inl x1)]) (ft_d o_St_routeChanged 28 rfl) ml_St_59 li_PS_hasProperlyAround.1 li_PS_hasProperlyAround.2 lw_PS_hasProperlyAround ⟨rfl, rfl, Nat.le_of_ble_eq_true rfl, Nat.le_of_ble_eq_true rfl⟩ (shc_6_2 hr0) rfl rfl rfl rfl (Nat.le_of_ble_eq_true rfl) c6) (fun z7 h4 hz hw => ?_)
  have w := w z7 h4 hz hw
  refine fv_if_eq (tgt := 87) (ft_d o_St_routeChanged 29 rfl) rfl rfl (fun c => ?_) (fun c => ?_)
  · have w := w.1 c
    refine fv_aload_n (ft_d o_St_routeChanged 52 rfl) rfl rfl ?_
    refine fv_getR (b := r0 + 10) (ft_d o_St_routeChanged 53 rfl) rfl fl_St_34 hr0 rfl (lyc_6_4 hr0) ?_
    refine fv_iconst (ft_d o_St_routeChanged 54 rfl) rfl rfl ?_
    refine fv_laldj (j := 2) (ft_d o_St_routeChanged 55 rfl) rfl (shc_6_4 hr0) ⟨by decide, by decide⟩ rfl ?_
    refine fv_lload_n (ft_d o_St_routeChanged 56 rfl) rfl rfl ?_
    refine fv_lsub (ft_d o_St_routeChanged 57 rfl) rfl ?_
    refine fv_l2i (ft_d o_St_routeChanged 58 rfl) rfl ?_
    exact fv_ireturn (ft_d o_St_routeChanged 59 rfl) rfl w
  · have w := w.2 c
    refine fv_aload_n (ft_d o_St_routeChanged 30 rfl) rfl rfl ?_
    refine fv_getR (b := r0 + 4) (ft_d o_St_routeChanged 31 rfl) rfl fl_St_24 hr0 rfl (lyc_6_2 hr0) ?_
    refine fv_getI (ft_d o_St_routeChanged 32 rfl) rfl fl_St_38 (shc_6_2 hr0) rfl ?_
    refine fv_aload_n (ft_d o_St_routeChanged 33 rfl) rfl rfl ?_
    refine fv_callif (st := [.inl (h4 (r0 + 4) 2)]) (z := 2 * h4 r0 0) (Or.inl rfl) rfl (ft_mm (pre := [.inr (.inr r0)]) rfl) (ft_rnV (K' := k_St_room) (As := []) (ft_d o_St_routeChanged 34 rfl) ml_St_63 li_St_room.1 li_St_room.2 lw_St_room ⟨rfl, rfl, Nat.le_of_ble_eq_true rfl, Nat.le_of_ble_eq_true rfl⟩ hr0 rfl rfl rfl rfl (Nat.le_of_ble_eq_true rfl) (c_St_room hr0 w.1)) ?_
    have w := w.2
    refine fv_icmp_ge (tgt := 83) (ft_d o_St_routeChanged 35 rfl) rfl rfl (fun c => ?_) (fun c => ?_)
    · have w := w.1 c
      refine fv_aload_n (ft_d o_St_routeChanged 50 rfl) rfl rfl ?_
      obtain ⟨R10, c11, w⟩ := w
      refine fv_callv (st := []) rfl rfl (ft_mm (pre := [.inr (.inr r0)]) rfl) (ft_rnV (K' := k_St_emptyHardware) (As := []) (ft_d o_St_routeChanged 51 rfl) ml_St_71 li_St_emptyHardware.1 li_St_emptyHardware.2 lw_St_emptyHardware ⟨rfl, rfl, Nat.le_of_ble_eq_true rfl, Nat.le_of_ble_eq_true rfl⟩ hr0 rfl rfl rfl rfl (Nat.le_of_ble_eq_true rfl) c11) (fun h5 hw => ?_)
      have w := w h5 hw
      refine fv_aload_n (ft_d o_St_routeChanged 52 rfl) rfl rfl ?_
      refine fv_getR (b := r0 + 10) (ft_d o_St_routeChanged 53 rfl) rfl fl_St_34 hr0 rfl (lyc_6_4 hr0) ?_
      refine fv_iconst (ft_d o_St_routeChanged 54 rfl) rfl rfl ?_
      refine fv_laldj (j := 2) (ft_d o_St_routeChanged 55 rfl) rfl (shc_6_4 hr0) ⟨by decide, by decide⟩ rfl ?_
      refine fv_lload_n (ft_d o_St_routeChanged 56 rfl) rfl rfl ?_
      refine fv_lsub (ft_d o_St_routeChanged 57 rfl) rfl ?_
      refine fv_l2i (ft_d o_St_routeChanged 58 rfl) rfl ?_
      exact fv_ireturn (ft_d o_St_routeChanged 59 rfl) rfl w
    · have w := w.2 c
      refine fv_aload_n (ft_d o_St_routeChanged 36 rfl) rfl rfl ?_
      refine fv_getR (b := r0 + 4) (ft_d o_St_routeChanged 37 rfl) rfl fl_St_24 hr0 rfl (lyc_6_2 hr0) ?_
      refine fv_lload_n (ft_d o_St_routeChanged 38 rfl) rfl rfl ?_
      refine fv_bipush (ft_d o_St_routeChanged 39 rfl) rfl rfl ?_
      obtain ⟨R12, c13, w⟩ := w
      refine fv_callv (st := []) rfl rfl (ft_mm (pre := [.inl 16, .inr (.inl x1), .inr (.inr (r0 + 4))]) rfl) (ft_rnV (K' := k_PS_put) (As := [.inr (.inl x1), .inl 16]) (ft_d o_St_routeChanged 40 rfl) ml_St_67 li_PS_put.1 li_PS_put.2 lw_PS_put ⟨rfl, rfl, Nat.le_of_ble_eq_true rfl, Nat.le_of_ble_eq_true rfl⟩ (shc_6_2 hr0) rfl rfl rfl rfl (Nat.le_of_ble_eq_true rfl) c13) (fun h6 hw => ?_)
      have w := w h6 hw
      refine fv_aload_n (ft_d o_St_routeChanged 41 rfl) rfl rfl ?_
      refine fv_getR (b := r0 + 10) (ft_d o_St_routeChanged 42 rfl) rfl fl_St_34 hr0 rfl (lyc_6_4 hr0) ?_
      refine fv_iconst (ft_d o_St_routeChanged 43 rfl) rfl rfl ?_
      refine fv_dup2 (ft_d o_St_routeChanged 44 rfl) rfl rfl rfl ?_
      refine fv_laldj (j := 2) (ft_d o_St_routeChanged 45 rfl) rfl (shc_6_4 hr0) ⟨by decide, by decide⟩ rfl ?_
      refine fv_lconst (z := 1) (ft_d o_St_routeChanged 46 rfl) rfl rfl ?_
      refine fv_ladd (ft_d o_St_routeChanged 47 rfl) rfl ?_
      refine fv_lastj (j := 2) (ft_d o_St_routeChanged 48 rfl) rfl (shc_6_4 hr0) ⟨by decide, by decide⟩ rfl ?_
      generalize eh7 : ft_hs h6 (r0 + 10) 2 (ft_addL (h6 (r0 + 10) 2) 1) = h7
      have w := w h7 eh7.symm
      refine fv_goto (pc' := 87) (ft_d o_St_routeChanged 49 rfl) rfl ?_
      refine fv_aload_n (ft_d o_St_routeChanged 52 rfl) rfl rfl ?_
      refine fv_getR (b := r0 + 10) (ft_d o_St_routeChanged 53 rfl) rfl fl_St_34 hr0 rfl (lyc_6_4 hr0) ?_
      refine fv_iconst (ft_d o_St_routeChanged 54 rfl) rfl rfl ?_
      refine fv_laldj (j := 2) (ft_d o_St_routeChanged 55 rfl) rfl (shc_6_4 hr0) ⟨by decide, by decide⟩ rfl ?_
      refine fv_lload_n (ft_d o_St_routeChanged 56 rfl) rfl rfl ?_
      refine fv_lsub (ft_d o_St_routeChanged 57 rfl) rfl ?_
      refine fv_l2i (ft_d o_St_routeChanged 58 rfl) rfl ?_
      exact fv_ireturn (ft_d o_St_routeChanged 59 rfl) rfl w
set_option maxRecDepth 20000 in
theorem b_TL_copyFrom_0 {r0 : Nat} {r1 : Nat} {h : ftH} {R : Option ftV → ftH → Prop} (hr0 : ft_sh r0 = some (.inl 9)) (hr1 : ft_sh r1 = some (.inl 9))
    (w : ((0 ≤ (0 : Int) ∧ 0 ≤ (0 : Int) ∧ 0 ≤ h r1 2 ∧ (0 : Int) + (h r1 2) ≤ 40 ∧ (0 : Int) + (h r1 2) ≤ 40) ∧ (∀ h1 : ftH, h1 = ft_cp h (r1 + 1) (0 : Int).toNat (r0 + 1) (0 : Int).toNat (h r1 2).toNat → ((0 ≤ (0 : Int) ∧ 0 ≤ (0 : Int) ∧ 0 ≤ h1 r1 2 ∧ (0 : Int) + (h1 r1 2) ≤ 40 ∧ (0 : Int) + (h1 r1 2) ≤ 40) ∧ (∀ h2 : ftH, h2 = ft_cp h1 (r1 + 2) (0 : Int).toNat (r0 + 2) (0 : Int).toNat (h1 r1 2).toNat → (∀ h3 : ftH, h3 = ft_hs h2 r0 2 (h2 r1 2) → R none h3)))))) : ft_V k_TL_copyFrom 0 [some (.inr (.inr r0)), some (.inr (.inr r1))] [] h R := by
  refine fv_aload_n (ft_d o_TL_copyFrom 0 rfl) rfl rfl ?_
  refine fv_getR (b := r1 + 1) (ft_d o_TL_copyFrom 1 rfl) rfl fl_TL_9 hr1 rfl (lyc_9_0 hr1) ?_
  refine fv_iconst (ft_d o_TL_copyFrom 2 rfl) rfl rfl ?_
  refine fv_aload_n (ft_d o_TL_copyFrom 3 rfl) rfl rfl ?_
  refine fv_getR (b := r0 + 1) (ft_d o_TL_copyFrom 4 rfl) rfl fl_TL_9 hr0 rfl (lyc_9_0 hr0) ?_
  refine fv_iconst (ft_d o_TL_copyFrom 5 rfl) rfl rfl ?_
  refine fv_aload_n (ft_d o_TL_copyFrom 6 rfl) rfl rfl ?_
  refine fv_getI (ft_d o_TL_copyFrom 7 rfl) rfl fl_TL_19 hr1 rfl ?_
  refine fv_cpyL (ft_d o_TL_copyFrom 8 rfl) rfl ml_TL_23 (Nat.le_of_ble_eq_true rfl) (Nat.le_of_ble_eq_true rfl) (Nat.le_of_ble_eq_true rfl) (shc_9_0 hr1) (shc_9_0 hr0) w.1 ?_
  have w := w.2
  generalize eh1 : ft_cp h (r1 + 1) (0 : Int).toNat (r0 + 1) (0 : Int).toNat (h r1 2).toNat = h1
  have w := w h1 eh1.symm
  refine fv_aload_n (ft_d o_TL_copyFrom 9 rfl) rfl rfl ?_
  refine fv_getR (b := r1 + 2) (ft_d o_TL_copyFrom 10 rfl) rfl fl_TL_15 hr1 rfl (lyc_9_1 hr1) ?_
  refine fv_iconst (ft_d o_TL_copyFrom 11 rfl) rfl rfl ?_
  refine fv_aload_n (ft_d o_TL_copyFrom 12 rfl) rfl rfl ?_
  refine fv_getR (b := r0 + 2) (ft_d o_TL_copyFrom 13 rfl) rfl fl_TL_15 hr0 rfl (lyc_9_1 hr0) ?_
  refine fv_iconst (ft_d o_TL_copyFrom 14 rfl) rfl rfl ?_
  refine fv_aload_n (ft_d o_TL_copyFrom 15 rfl) rfl rfl ?_
  refine fv_getI (ft_d o_TL_copyFrom 16 rfl) rfl fl_TL_19 hr1 rfl ?_
  refine fv_cpyI (ft_d o_TL_copyFrom 17 rfl) rfl ml_TL_23 (Nat.le_of_ble_eq_true rfl) (Nat.le_of_ble_eq_true rfl) (Nat.le_of_ble_eq_true rfl) (shc_9_1 hr1) (shc_9_1 hr0) w.1 ?_
  have w := w.2
  generalize eh2 : ft_cp h1 (r1 + 2) (0 : Int).toNat (r0 + 2) (0 : Int).toNat (h1 r1 2).toNat = h2
  have w := w h2 eh2.symm
  refine fv_aload_n (ft_d o_TL_copyFrom 18 rfl) rfl rfl ?_
  refine fv_aload_n (ft_d o_TL_copyFrom 19 rfl) rfl rfl ?_
  refine fv_getI (ft_d o_TL_copyFrom 20 rfl) rfl fl_TL_19 hr1 rfl ?_
  refine fv_putI (ft_d o_TL_copyFrom 21 rfl) rfl fl_TL_19 rfl rfl hr0 rfl ?_
  generalize eh3 : ft_hs h2 r0 2 (h2 r1 2) = h3
  have w := w h3 eh3.symm
  exact fv_return (ft_d o_TL_copyFrom 22 rfl) rfl w
set_option maxRecDepth 20000 in
theorem b_TL_indexOf_0 {r0 : Nat} {x1 : Int} {h : ftH} {R : Option ftV → ftH → Prop} (hr0 : ft_sh r0 = some (.inl 9))
    (w : ft_V k_TL_indexOf 2 [some (.inr (.inr r0)), some (.inr (.inl x1)), none, some (.inl 0)] [] h R) : ft_V k_TL_indexOf 0 [some (.inr (.inr r0)), some (.inr (.inl x1)), none, none] [] h R := by
  refine fv_iconst (ft_d o_TL_indexOf 0 rfl) rfl rfl ?_
  refine fv_istore_n (L' := [some (.inr (.inr r0)), some (.inr (.inl x1)), none, some (.inl 0)]) (ft_d o_TL_indexOf 1 rfl) rfl (Nat.le_of_ble_eq_true rfl) rfl ?_
  exact w
set_option maxRecDepth 20000 in
theorem b_TL_indexOf_2 {r0 : Nat} {x1 : Int} {x3 : Int} {h : ftH} {R : Option ftV → ftH → Prop} (hr0 : ft_sh r0 = some (.inl 9))
    (w : ((h r0 2 ≤ x3 → R (some (.inl ((-1)))) h) ∧ (¬ (h r0 2 ≤ x3) → ((0 ≤ x3 ∧ x3 < 40) ∧ ((¬ (h (r0 + 1) x3.toNat = x1) → ft_V k_TL_indexOf 2 [some (.inr (.inr r0)), some (.inr (.inl x1)), none, some (.inl (ft_add x3 1))] [] h R) ∧ (h (r0 + 1) x3.toNat = x1 → R (some (.inl x3)) h)))))) : ft_V k_TL_indexOf 2 [some (.inr (.inr r0)), some (.inr (.inl x1)), none, some (.inl x3)] [] h R := by
  refine fv_iload_n (ft_d o_TL_indexOf 2 rfl) rfl rfl ?_
  refine fv_aload_n (ft_d o_TL_indexOf 3 rfl) rfl rfl ?_
  refine fv_getI (ft_d o_TL_indexOf 4 rfl) rfl fl_TL_19 hr0 rfl ?_
  refine fv_icmp_ge (tgt := 29) (ft_d o_TL_indexOf 5 rfl) rfl rfl (fun c => ?_) (fun c => ?_)
  · have w := w.1 c
    refine fv_iconst (ft_d o_TL_indexOf 17 rfl) rfl rfl ?_
    exact fv_ireturn (ft_d o_TL_indexOf 18 rfl) rfl w
  · have w := w.2 c
    refine fv_aload_n (ft_d o_TL_indexOf 6 rfl) rfl rfl ?_
    refine fv_getR (b := r0 + 1) (ft_d o_TL_indexOf 7 rfl) rfl fl_TL_9 hr0 rfl (lyc_9_0 hr0) ?_
    refine fv_iload_n (ft_d o_TL_indexOf 8 rfl) rfl rfl ?_
    refine fv_lald (ft_d o_TL_indexOf 9 rfl) rfl (shc_9_0 hr0) w.1 ?_
    have w := w.2
    refine fv_lload_n (ft_d o_TL_indexOf 10 rfl) rfl rfl ?_
    refine fv_lcmp_ne (tgt := 23) (ft_d o_TL_indexOf 11 rfl) (ft_d o_TL_indexOf 12 rfl) rfl rfl (fun c => ?_) (fun c => ?_)
    · have w := w.1 c
      refine fv_iinc (L' := [some (.inr (.inr r0)), some (.inr (.inl x1)), none, some (.inl (ft_add x3 1))]) (ft_d o_TL_indexOf 15 rfl) rfl rfl (Nat.le_of_ble_eq_true rfl) rfl ?_
      refine fv_goto (pc' := 2) (ft_d o_TL_indexOf 16 rfl) rfl ?_
      exact w
    · have w := w.2 c
      refine fv_iload_n (ft_d o_TL_indexOf 13 rfl) rfl rfl ?_
      exact fv_ireturn (ft_d o_TL_indexOf 14 rfl) rfl w
set_option maxRecDepth 20000 in
theorem b_TL_see_0 {r0 : Nat} {x1 : Int} {x3 : Int} {h : ftH} {R : Option ftV → ftH → Prop} (hr0 : ft_sh r0 = some (.inl 9))
    (w : (∃ R1 : Option ftV → ftH → Prop, ft_C k_TL_indexOf [.inr (.inr r0), .inr (.inl x1)] h R1 ∧ ∀ (z3 : Int) (h1 : ftH), ft_in z3 → R1 (some (.inl z3)) h1 → ((z3 < 0 → ((h1 r0 2 < 40 → ((0 ≤ h1 r0 2 ∧ h1 r0 2 < 40) ∧ (∀ h2 : ftH, h2 = ft_hs h1 (r0 + 1) (h1 r0 2).toNat x1 → ((0 ≤ h2 r0 2 ∧ h2 r0 2 < 40) ∧ (∀ h3 : ftH, h3 = ft_hs h2 (r0 + 2) (h2 r0 2).toNat x3 → (∀ h4 : ftH, h4 = ft_hs h3 r0 2 (ft_add (h3 r0 2) 1) → R none h4)))))) ∧ (¬ (h1 r0 2 < 40) → (∃ R4 : Option ftV → ftH → Prop, ft_C k_TL_rarest [.inr (.inr r0)] h1 R4 ∧ ∀ (z6 : Int) (h5 : ftH), ft_in z6 → R4 (some (.inl z6)) h5 → (∃ R7 : Option ftV → ftH → Prop, ft_C k_TL_removeAt [.inr (.inr r0), .inl z6] h5 R7 ∧ ∀ h6 : ftH, R7 none h6 → ((0 ≤ h6 r0 2 ∧ h6 r0 2 < 40) ∧ (∀ h7 : ftH, h7 = ft_hs h6 (r0 + 1) (h6 r0 2).toNat x1 → ((0 ≤ h7 r0 2 ∧ h7 r0 2 < 40) ∧ (∀ h8 : ftH, h8 = ft_hs h7 (r0 + 2) (h7 r0 2).toNat x3 → (∀ h9 : ftH, h9 = ft_hs h8 r0 2 (ft_add (h8 r0 2) 1) → R none h9)))))))))) ∧ (¬ (z3 < 0) → ((0 ≤ z3 ∧ z3 < 40) ∧ ((0 ≤ z3 ∧ z3 < 40) ∧ (∀ h10 : ftH, h10 = ft_hs h1 (r0 + 2) z3.toNat (min (ft_add (h1 (r0 + 2) z3.toNat) x3) 999999) → R none h10))))))) : ft_V k_TL_see 0 [some (.inr (.inr r0)), some (.inr (.inl x1)), none, some (.inl x3), none] [] h R := by
  refine fv_aload_n (ft_d o_TL_see 0 rfl) rfl rfl ?_
  refine fv_lload_n (ft_d o_TL_see 1 rfl) rfl rfl ?_
  obtain ⟨R1, c2, w⟩ := w
  refine fv_calli (st := []) (Or.inl rfl) rfl (ft_mm (pre := [.inr (.inl x1), .inr (.inr r0)]) rfl) (ft_rnV (K' := k_TL_indexOf) (As := [.inr (.inl x1)]) (ft_d o_TL_see 2 rfl) ml_TL_29 li_TL_indexOf.1 li_TL_indexOf.2 lw_TL_indexOf ⟨rfl, rfl, Nat.le_of_ble_eq_true rfl, Nat.le_of_ble_eq_true rfl⟩ hr0 rfl rfl rfl rfl (Nat.le_of_ble_eq_true rfl) c2) (fun z3 h1 hz hw => ?_)
  have w := w z3 h1 hz hw
  refine fv_istore (L' := [some (.inr (.inr r0)), some (.inr (.inl x1)), none, some (.inl x3), some (.inl z3)]) (ft_d o_TL_see 3 rfl) rfl (Nat.le_of_ble_eq_true rfl) rfl ?_
  refine fv_iload (ft_d o_TL_see 4 rfl) rfl rfl ?_
  refine fv_if_lt (tgt := 34) (ft_d o_TL_see 5 rfl) rfl rfl (fun c => ?_) (fun c => ?_)
  · have w := w.1 c
    refine fv_aload_n (ft_d o_TL_see 19 rfl) rfl rfl ?_
    refine fv_getI (ft_d o_TL_see 20 rfl) rfl fl_TL_19 hr0 rfl ?_
    refine fv_bipush (ft_d o_TL_see 21 rfl) rfl rfl ?_
    refine fv_icmp_lt (tgt := 51) (ft_d o_TL_see 22 rfl) rfl rfl (fun c => ?_) (fun c => ?_)
    · have w := w.1 c
      refine fv_aload_n (ft_d o_TL_see 27 rfl) rfl rfl ?_
      refine fv_getR (b := r0 + 1) (ft_d o_TL_see 28 rfl) rfl fl_TL_9 hr0 rfl (lyc_9_0 hr0) ?_
      refine fv_aload_n (ft_d o_TL_see 29 rfl) rfl rfl ?_
      refine fv_getI (ft_d o_TL_see 30 rfl) rfl fl_TL_19 hr0 rfl ?_
      refine fv_lload_n (ft_d o_TL_see 31 rfl) rfl rfl ?_
      refine fv_last (ft_d o_TL_see 32 rfl) rfl (shc_9_0 hr0) w.1 ?_
      have w := w.2
      generalize eh2 : ft_hs h1 (r0 + 1) (h1 r0 2).toNat x1 = h2
      have w := w h2 eh2.symm
      refine fv_aload_n (ft_d o_TL_see 33 rfl) rfl rfl ?_
      refine fv_getR (b := r0 + 2) (ft_d o_TL_see 34 rfl) rfl fl_TL_15 hr0 rfl (lyc_9_1 hr0) ?_
      refine fv_aload_n (ft_d o_TL_see 35 rfl) rfl rfl ?_
      refine fv_getI (ft_d o_TL_see 36 rfl) rfl fl_TL_19 hr0 rfl ?_
      refine fv_iload_n (ft_d o_TL_see 37 rfl) rfl rfl ?_
      refine fv_iast (ft_d o_TL_see 38 rfl) rfl (shc_9_1 hr0) w.1 ?_
      have w := w.2
      generalize eh3 : ft_hs h2 (r0 + 2) (h2 r0 2).toNat x3 = h3
      have w := w h3 eh3.symm
      refine fv_aload_n (ft_d o_TL_see 39 rfl) rfl rfl ?_
      refine fv_dup (ft_d o_TL_see 40 rfl) rfl rfl ?_
      refine fv_getI (ft_d o_TL_see 41 rfl) rfl fl_TL_19 hr0 rfl ?_
      refine fv_iconst (ft_d o_TL_see 42 rfl) rfl rfl ?_
      refine fv_iadd (ft_d o_TL_see 43 rfl) rfl ?_
      refine fv_putI (ft_d o_TL_see 44 rfl) rfl fl_TL_19 rfl rfl hr0 rfl ?_
      generalize eh4 : ft_hs h3 r0 2 (ft_add (h3 r0 2) 1) = h4
      have w := w h4 eh4.symm
      exact fv_return (ft_d o_TL_see 45 rfl) rfl w
    · have w := w.2 c
      refine fv_aload_n (ft_d o_TL_see 23 rfl) rfl rfl ?_
      refine fv_aload_n (ft_d o_TL_see 24 rfl) rfl rfl ?_
      obtain ⟨R4, c5, w⟩ := w
      refine fv_calli (st := [.inr (.inr r0)]) (Or.inl rfl) rfl (ft_mm (pre := [.inr (.inr r0)]) rfl) (ft_rnV (K' := k_TL_rarest) (As := []) (ft_d o_TL_see 25 rfl) ml_TL_40 li_TL_rarest.1 li_TL_rarest.2 lw_TL_rarest ⟨rfl, rfl, Nat.le_of_ble_eq_true rfl, Nat.le_of_ble_eq_true rfl⟩ hr0 rfl rfl rfl rfl (Nat.le_of_ble_eq_true rfl) c5) (fun z6 h5 hz hw => ?_)
      have w := w z6 h5 hz hw
      obtain ⟨R7, c8, w⟩ := w
      refine fv_callv (st := []) rfl rfl (ft_mm (pre := [.inl z6, .inr (.inr r0)]) rfl) (ft_rnV (K' := k_TL_removeAt) (As := [.inl z6]) (ft_d o_TL_see 26 rfl) ml_TL_44 li_TL_removeAt.1 li_TL_removeAt.2 lw_TL_removeAt ⟨rfl, rfl, Nat.le_of_ble_eq_true rfl, Nat.le_of_ble_eq_true rfl⟩ hr0 rfl rfl rfl rfl (Nat.le_of_ble_eq_true rfl) c8) (fun h6 hw => ?_)
      have w := w h6 hw
      refine fv_aload_n (ft_d o_TL_see 27 rfl) rfl rfl ?_
      refine fv_getR (b := r0 + 1) (ft_d o_TL_see 28 rfl) rfl fl_TL_9 hr0 rfl (lyc_9_0 hr0) ?_
      refine fv_aload_n (ft_d o_TL_see 29 rfl) rfl rfl ?_
      refine fv_getI (ft_d o_TL_see 30 rfl) rfl fl_TL_19 hr0 rfl ?_
      refine fv_lload_n (ft_d o_TL_see 31 rfl) rfl rfl ?_
      refine fv_last (ft_d o_TL_see 32 rfl) rfl (shc_9_0 hr0) w.1 ?_
      have w := w.2
      generalize eh7 : ft_hs h6 (r0 + 1) (h6 r0 2).toNat x1 = h7
      have w := w h7 eh7.symm
      refine fv_aload_n (ft_d o_TL_see 33 rfl) rfl rfl ?_
      refine fv_getR (b := r0 + 2) (ft_d o_TL_see 34 rfl) rfl fl_TL_15 hr0 rfl (lyc_9_1 hr0) ?_
      refine fv_aload_n (ft_d o_TL_see 35 rfl) rfl rfl ?_
      refine fv_getI (ft_d o_TL_see 36 rfl) rfl fl_TL_19 hr0 rfl ?_
      refine fv_iload_n (ft_d o_TL_see 37 rfl) rfl rfl ?_
      refine fv_iast (ft_d o_TL_see 38 rfl) rfl (shc_9_1 hr0) w.1 ?_
      have w := w.2
      generalize eh8 : ft_hs h7 (r0 + 2) (h7 r0 2).toNat x3 = h8
      have w := w h8 eh8.symm
      refine fv_aload_n (ft_d o_TL_see 39 rfl) rfl rfl ?_
      refine fv_dup (ft_d o_TL_see 40 rfl) rfl rfl ?_
      refine fv_getI (ft_d o_TL_see 41 rfl) rfl fl_TL_19 hr0 rfl ?_
      refine fv_iconst (ft_d o_TL_see 42 rfl) rfl rfl ?_
      refine fv_iadd (ft_d o_TL_see 43 rfl) rfl ?_
      refine fv_putI (ft_d o_TL_see 44 rfl) rfl fl_TL_19 rfl rfl hr0 rfl ?_
      generalize eh9 : ft_hs h8 r0 2 (ft_add (h8 r0 2) 1) = h9
      have w := w h9 eh9.symm
      exact fv_return (ft_d o_TL_see 45 rfl) rfl w
  · have w := w.2 c
    refine fv_aload_n (ft_d o_TL_see 6 rfl) rfl rfl ?_
    refine fv_getR (b := r0 + 2) (ft_d o_TL_see 7 rfl) rfl fl_TL_15 hr0 rfl (lyc_9_1 hr0) ?_
    refine fv_iload (ft_d o_TL_see 8 rfl) rfl rfl ?_
    refine fv_aload_n (ft_d o_TL_see 9 rfl) rfl rfl ?_
    refine fv_getR (b := r0 + 2) (ft_d o_TL_see 10 rfl) rfl fl_TL_15 hr0 rfl (lyc_9_1 hr0) ?_
    refine fv_iload (ft_d o_TL_see 11 rfl) rfl rfl ?_
    refine fv_iald (ft_d o_TL_see 12 rfl) rfl (shc_9_1 hr0) w.1 ?_
    have w := w.2
    refine fv_iload_n (ft_d o_TL_see 13 rfl) rfl rfl ?_
    refine fv_iadd (ft_d o_TL_see 14 rfl) rfl ?_
    refine fv_ldc (v := 999999) (z := 999999) (ft_d o_TL_see 15 rfl) rfl (ft_gt 550 (by decide +kernel) rfl) rfl ?_
    refine fv_min (ft_d o_TL_see 16 rfl) rfl ml_TL_34 (Nat.le_of_ble_eq_true rfl) (Nat.le_of_ble_eq_true rfl) (Nat.le_of_ble_eq_true rfl) ?_
    refine fv_iast (ft_d o_TL_see 17 rfl) rfl (shc_9_1 hr0) w.1 ?_
    have w := w.2
    generalize eh10 : ft_hs h1 (r0 + 2) z3.toNat (min (ft_add (h1 (r0 + 2) z3.toNat) x3) 999999) = h10
    have w := w h10 eh10.symm
    exact fv_return (ft_d o_TL_see 18 rfl) rfl w
set_option maxRecDepth 20000 in
theorem b_TL_rarest_0 {r0 : Nat} {h : ftH} {R : Option ftV → ftH → Prop} (hr0 : ft_sh r0 = some (.inl 9))
    (w : ft_V k_TL_rarest 4 [some (.inr (.inr r0)), some (.inl 0), some (.inl 1)] [] h R) : ft_V k_TL_rarest 0 [some (.inr (.inr r0)), none, none] [] h R := by
  refine fv_iconst (ft_d o_TL_rarest 0 rfl) rfl rfl ?_
  refine fv_istore_n (L' := [some (.inr (.inr r0)), some (.inl 0), none]) (ft_d o_TL_rarest 1 rfl) rfl (Nat.le_of_ble_eq_true rfl) rfl ?_
  refine fv_iconst (ft_d o_TL_rarest 2 rfl) rfl rfl ?_
  refine fv_istore_n (L' := [some (.inr (.inr r0)), some (.inl 0), some (.inl 1)]) (ft_d o_TL_rarest 3 rfl) rfl (Nat.le_of_ble_eq_true rfl) rfl ?_
  exact w
set_option maxRecDepth 20000 in
theorem b_TL_rarest_4 {r0 : Nat} {x1 : Int} {x2 : Int} {h : ftH} {R : Option ftV → ftH → Prop} (hr0 : ft_sh r0 = some (.inl 9))
    (w : ((h r0 2 ≤ x2 → R (some (.inl x1)) h) ∧ (¬ (h r0 2 ≤ x2) → ((0 ≤ x2 ∧ x2 < 40) ∧ ((0 ≤ x1 ∧ x1 < 40) ∧ ((h (r0 + 2) x1.toNat ≤ h (r0 + 2) x2.toNat → ft_V k_TL_rarest 4 [some (.inr (.inr r0)), some (.inl x1), some (.inl (ft_add x2 1))] [] h R) ∧ (¬ (h (r0 + 2) x1.toNat ≤ h (r0 + 2) x2.toNat) → ft_V k_TL_rarest 4 [some (.inr (.inr r0)), some (.inl x2), some (.inl (ft_add x2 1))] [] h R))))))) : ft_V k_TL_rarest 4 [some (.inr (.inr r0)), some (.inl x1), some (.inl x2)] [] h R := by
  refine fv_iload_n (ft_d o_TL_rarest 4 rfl) rfl rfl ?_
  refine fv_aload_n (ft_d o_TL_rarest 5 rfl) rfl rfl ?_
  refine fv_getI (ft_d o_TL_rarest 6 rfl) rfl fl_TL_19 hr0 rfl ?_
  refine fv_icmp_ge (tgt := 35) (ft_d o_TL_rarest 7 rfl) rfl rfl (fun c => ?_) (fun c => ?_)
  · have w := w.1 c
    refine fv_iload_n (ft_d o_TL_rarest 21 rfl) rfl rfl ?_
    exact fv_ireturn (ft_d o_TL_rarest 22 rfl) rfl w
  · have w := w.2 c
    refine fv_aload_n (ft_d o_TL_rarest 8 rfl) rfl rfl ?_
    refine fv_getR (b := r0 + 2) (ft_d o_TL_rarest 9 rfl) rfl fl_TL_15 hr0 rfl (lyc_9_1 hr0) ?_
    refine fv_iload_n (ft_d o_TL_rarest 10 rfl) rfl rfl ?_
    refine fv_iald (ft_d o_TL_rarest 11 rfl) rfl (shc_9_1 hr0) w.1 ?_
    have w := w.2
    refine fv_aload_n (ft_d o_TL_rarest 12 rfl) rfl rfl ?_
    refine fv_getR (b := r0 + 2) (ft_d o_TL_rarest 13 rfl) rfl fl_TL_15 hr0 rfl (lyc_9_1 hr0) ?_
    refine fv_iload_n (ft_d o_TL_rarest 14 rfl) rfl rfl ?_
    refine fv_iald (ft_d o_TL_rarest 15 rfl) rfl (shc_9_1 hr0) w.1 ?_
    have w := w.2
    refine fv_icmp_ge (tgt := 29) (ft_d o_TL_rarest 16 rfl) rfl rfl (fun c => ?_) (fun c => ?_)
    · have w := w.1 c
      refine fv_iinc (L' := [some (.inr (.inr r0)), some (.inl x1), some (.inl (ft_add x2 1))]) (ft_d o_TL_rarest 19 rfl) rfl rfl (Nat.le_of_ble_eq_true rfl) rfl ?_
      refine fv_goto (pc' := 4) (ft_d o_TL_rarest 20 rfl) rfl ?_
      exact w
    · have w := w.2 c
      refine fv_iload_n (ft_d o_TL_rarest 17 rfl) rfl rfl ?_
      refine fv_istore_n (L' := [some (.inr (.inr r0)), some (.inl x2), some (.inl x2)]) (ft_d o_TL_rarest 18 rfl) rfl (Nat.le_of_ble_eq_true rfl) rfl ?_
      refine fv_iinc (L' := [some (.inr (.inr r0)), some (.inl x2), some (.inl (ft_add x2 1))]) (ft_d o_TL_rarest 19 rfl) rfl rfl (Nat.le_of_ble_eq_true rfl) rfl ?_
      refine fv_goto (pc' := 4) (ft_d o_TL_rarest 20 rfl) rfl ?_
      exact w
set_option maxRecDepth 20000 in
theorem b_TL_removeAt_0 {r0 : Nat} {x1 : Int} {h : ftH} {R : Option ftV → ftH → Prop} (hr0 : ft_sh r0 = some (.inl 9))
    (w : (∀ h1 : ftH, h1 = ft_hs h r0 2 (ft_sub (h r0 2) 1) → ((0 ≤ ft_add x1 1 ∧ 0 ≤ x1 ∧ 0 ≤ ft_sub (h1 r0 2) x1 ∧ (ft_add x1 1) + (ft_sub (h1 r0 2) x1) ≤ 40 ∧ x1 + (ft_sub (h1 r0 2) x1) ≤ 40) ∧ (∀ h2 : ftH, h2 = ft_cp h1 (r0 + 1) (ft_add x1 1).toNat (r0 + 1) x1.toNat (ft_sub (h1 r0 2) x1).toNat → ((0 ≤ ft_add x1 1 ∧ 0 ≤ x1 ∧ 0 ≤ ft_sub (h2 r0 2) x1 ∧ (ft_add x1 1) + (ft_sub (h2 r0 2) x1) ≤ 40 ∧ x1 + (ft_sub (h2 r0 2) x1) ≤ 40) ∧ (∀ h3 : ftH, h3 = ft_cp h2 (r0 + 2) (ft_add x1 1).toNat (r0 + 2) x1.toNat (ft_sub (h2 r0 2) x1).toNat → R none h3)))))) : ft_V k_TL_removeAt 0 [some (.inr (.inr r0)), some (.inl x1)] [] h R := by
  refine fv_aload_n (ft_d o_TL_removeAt 0 rfl) rfl rfl ?_
  refine fv_dup (ft_d o_TL_removeAt 1 rfl) rfl rfl ?_
  refine fv_getI (ft_d o_TL_removeAt 2 rfl) rfl fl_TL_19 hr0 rfl ?_
  refine fv_iconst (ft_d o_TL_removeAt 3 rfl) rfl rfl ?_
  refine fv_isub (ft_d o_TL_removeAt 4 rfl) rfl ?_
  refine fv_putI (ft_d o_TL_removeAt 5 rfl) rfl fl_TL_19 rfl rfl hr0 rfl ?_
  generalize eh1 : ft_hs h r0 2 (ft_sub (h r0 2) 1) = h1
  have w := w h1 eh1.symm
  refine fv_aload_n (ft_d o_TL_removeAt 6 rfl) rfl rfl ?_
  refine fv_getR (b := r0 + 1) (ft_d o_TL_removeAt 7 rfl) rfl fl_TL_9 hr0 rfl (lyc_9_0 hr0) ?_
  refine fv_iload_n (ft_d o_TL_removeAt 8 rfl) rfl rfl ?_
  refine fv_iconst (ft_d o_TL_removeAt 9 rfl) rfl rfl ?_
  refine fv_iadd (ft_d o_TL_removeAt 10 rfl) rfl ?_
  refine fv_aload_n (ft_d o_TL_removeAt 11 rfl) rfl rfl ?_
  refine fv_getR (b := r0 + 1) (ft_d o_TL_removeAt 12 rfl) rfl fl_TL_9 hr0 rfl (lyc_9_0 hr0) ?_
  refine fv_iload_n (ft_d o_TL_removeAt 13 rfl) rfl rfl ?_
  refine fv_aload_n (ft_d o_TL_removeAt 14 rfl) rfl rfl ?_
  refine fv_getI (ft_d o_TL_removeAt 15 rfl) rfl fl_TL_19 hr0 rfl ?_
  refine fv_iload_n (ft_d o_TL_removeAt 16 rfl) rfl rfl ?_
  refine fv_isub (ft_d o_TL_removeAt 17 rfl) rfl ?_
  refine fv_cpyL (ft_d o_TL_removeAt 18 rfl) rfl ml_TL_23 (Nat.le_of_ble_eq_true rfl) (Nat.le_of_ble_eq_true rfl) (Nat.le_of_ble_eq_true rfl) (shc_9_0 hr0) (shc_9_0 hr0) w.1 ?_
  have w := w.2
  generalize eh2 : ft_cp h1 (r0 + 1) (ft_add x1 1).toNat (r0 + 1) x1.toNat (ft_sub (h1 r0 2) x1).toNat = h2
  have w := w h2 eh2.symm
  refine fv_aload_n (ft_d o_TL_removeAt 19 rfl) rfl rfl ?_
  refine fv_getR (b := r0 + 2) (ft_d o_TL_removeAt 20 rfl) rfl fl_TL_15 hr0 rfl (lyc_9_1 hr0) ?_
  refine fv_iload_n (ft_d o_TL_removeAt 21 rfl) rfl rfl ?_
  refine fv_iconst (ft_d o_TL_removeAt 22 rfl) rfl rfl ?_
  refine fv_iadd (ft_d o_TL_removeAt 23 rfl) rfl ?_
  refine fv_aload_n (ft_d o_TL_removeAt 24 rfl) rfl rfl ?_
  refine fv_getR (b := r0 + 2) (ft_d o_TL_removeAt 25 rfl) rfl fl_TL_15 hr0 rfl (lyc_9_1 hr0) ?_
  refine fv_iload_n (ft_d o_TL_removeAt 26 rfl) rfl rfl ?_
  refine fv_aload_n (ft_d o_TL_removeAt 27 rfl) rfl rfl ?_
  refine fv_getI (ft_d o_TL_removeAt 28 rfl) rfl fl_TL_19 hr0 rfl ?_
  refine fv_iload_n (ft_d o_TL_removeAt 29 rfl) rfl rfl ?_
  refine fv_isub (ft_d o_TL_removeAt 30 rfl) rfl ?_
  refine fv_cpyI (ft_d o_TL_removeAt 31 rfl) rfl ml_TL_23 (Nat.le_of_ble_eq_true rfl) (Nat.le_of_ble_eq_true rfl) (Nat.le_of_ble_eq_true rfl) (shc_9_1 hr0) (shc_9_1 hr0) w.1 ?_
  have w := w.2
  generalize eh3 : ft_cp h2 (r0 + 2) (ft_add x1 1).toNat (r0 + 2) x1.toNat (ft_sub (h2 r0 2) x1).toNat = h3
  have w := w h3 eh3.symm
  exact fv_return (ft_d o_TL_removeAt 32 rfl) rfl w
set_option maxRecDepth 20000 in
theorem b_TL_halve_0 {r0 : Nat} {h : ftH} {R : Option ftV → ftH → Prop} (hr0 : ft_sh r0 = some (.inl 9))
    (w : ft_V k_TL_halve 4 [some (.inr (.inr r0)), some (.inl 0), some (.inl 0)] [] h R) : ft_V k_TL_halve 0 [some (.inr (.inr r0)), none, none] [] h R := by
  refine fv_iconst (ft_d o_TL_halve 0 rfl) rfl rfl ?_
  refine fv_istore_n (L' := [some (.inr (.inr r0)), some (.inl 0), none]) (ft_d o_TL_halve 1 rfl) rfl (Nat.le_of_ble_eq_true rfl) rfl ?_
  refine fv_iconst (ft_d o_TL_halve 2 rfl) rfl rfl ?_
  refine fv_istore_n (L' := [some (.inr (.inr r0)), some (.inl 0), some (.inl 0)]) (ft_d o_TL_halve 3 rfl) rfl (Nat.le_of_ble_eq_true rfl) rfl ?_
  exact w
set_option maxRecDepth 20000 in
theorem b_TL_halve_4 {r0 : Nat} {x1 : Int} {x2 : Int} {h : ftH} {R : Option ftV → ftH → Prop} (hr0 : ft_sh r0 = some (.inl 9))
    (w : ((h r0 2 ≤ x2 → (∀ n1 : Int, n1 = ft_sub (h r0 2) x1 → (∀ h1 : ftH, h1 = ft_hs h r0 2 x1 → R (some (.inl n1)) h1))) ∧ (¬ (h r0 2 ≤ x2) → ((0 ≤ x2 ∧ x2 < 40) ∧ ((h (r0 + 2) x2.toNat ≤ 1 → ft_V k_TL_halve 4 [some (.inr (.inr r0)), some (.inl x1), some (.inl (ft_add x2 1))] [] h R) ∧ (¬ (h (r0 + 2) x2.toNat ≤ 1) → ((0 ≤ x2 ∧ x2 < 40) ∧ ((0 ≤ x1 ∧ x1 < 40) ∧ (∀ h2 : ftH, h2 = ft_hs h (r0 + 1) x1.toNat (h (r0 + 1) x2.toNat) → ((0 ≤ x2 ∧ x2 < 40) ∧ ((0 ≤ x1 ∧ x1 < 40) ∧ (∀ h3 : ftH, h3 = ft_hs h2 (r0 + 2) x1.toNat (ft_div (h2 (r0 + 2) x2.toNat) 2) → ft_V k_TL_halve 4 [some (.inr (.inr r0)), some (.inl (ft_add x1 1)), some (.inl (ft_add x2 1))] [] h3 R)))))))))))) : ft_V k_TL_halve 4 [some (.inr (.inr r0)), some (.inl x1), some (.inl x2)] [] h R := by
  refine fv_iload_n (ft_d o_TL_halve 4 rfl) rfl rfl ?_
  refine fv_aload_n (ft_d o_TL_halve 5 rfl) rfl rfl ?_
  refine fv_getI (ft_d o_TL_halve 6 rfl) rfl fl_TL_19 hr0 rfl ?_
  refine fv_icmp_ge (tgt := 57) (ft_d o_TL_halve 7 rfl) rfl rfl (fun c => ?_) (fun c => ?_)
  · have w := w.1 c
    refine fv_aload_n (ft_d o_TL_halve 35 rfl) rfl rfl ?_
    refine fv_getI (ft_d o_TL_halve 36 rfl) rfl fl_TL_19 hr0 rfl ?_
    refine fv_iload_n (ft_d o_TL_halve 37 rfl) rfl rfl ?_
    refine fv_isub (ft_d o_TL_halve 38 rfl) rfl ?_
    generalize en1 : ft_sub (h r0 2) x1 = n1
    have w := w n1 en1.symm
    refine fv_istore_n (L' := [some (.inr (.inr r0)), some (.inl x1), some (.inl n1)]) (ft_d o_TL_halve 39 rfl) rfl (Nat.le_of_ble_eq_true rfl) rfl ?_
    refine fv_aload_n (ft_d o_TL_halve 40 rfl) rfl rfl ?_
    refine fv_iload_n (ft_d o_TL_halve 41 rfl) rfl rfl ?_
    refine fv_putI (ft_d o_TL_halve 42 rfl) rfl fl_TL_19 rfl rfl hr0 rfl ?_
    generalize eh1 : ft_hs h r0 2 x1 = h1
    have w := w h1 eh1.symm
    refine fv_iload_n (ft_d o_TL_halve 43 rfl) rfl rfl ?_
    exact fv_ireturn (ft_d o_TL_halve 44 rfl) rfl w
  · have w := w.2 c
    refine fv_aload_n (ft_d o_TL_halve 8 rfl) rfl rfl ?_
    refine fv_getR (b := r0 + 2) (ft_d o_TL_halve 9 rfl) rfl fl_TL_15 hr0 rfl (lyc_9_1 hr0) ?_
    refine fv_iload_n (ft_d o_TL_halve 10 rfl) rfl rfl ?_
    refine fv_iald (ft_d o_TL_halve 11 rfl) rfl (shc_9_1 hr0) w.1 ?_
    have w := w.2
    refine fv_iconst (ft_d o_TL_halve 12 rfl) rfl rfl ?_
    refine fv_icmp_le (tgt := 51) (ft_d o_TL_halve 13 rfl) rfl rfl (fun c => ?_) (fun c => ?_)
    · have w := w.1 c
      refine fv_iinc (L' := [some (.inr (.inr r0)), some (.inl x1), some (.inl (ft_add x2 1))]) (ft_d o_TL_halve 33 rfl) rfl rfl (Nat.le_of_ble_eq_true rfl) rfl ?_
      refine fv_goto (pc' := 4) (ft_d o_TL_halve 34 rfl) rfl ?_
      exact w
    · have w := w.2 c
      refine fv_aload_n (ft_d o_TL_halve 14 rfl) rfl rfl ?_
      refine fv_getR (b := r0 + 1) (ft_d o_TL_halve 15 rfl) rfl fl_TL_9 hr0 rfl (lyc_9_0 hr0) ?_
      refine fv_iload_n (ft_d o_TL_halve 16 rfl) rfl rfl ?_
      refine fv_aload_n (ft_d o_TL_halve 17 rfl) rfl rfl ?_
      refine fv_getR (b := r0 + 1) (ft_d o_TL_halve 18 rfl) rfl fl_TL_9 hr0 rfl (lyc_9_0 hr0) ?_
      refine fv_iload_n (ft_d o_TL_halve 19 rfl) rfl rfl ?_
      refine fv_lald (ft_d o_TL_halve 20 rfl) rfl (shc_9_0 hr0) w.1 ?_
      have w := w.2
      refine fv_last (ft_d o_TL_halve 21 rfl) rfl (shc_9_0 hr0) w.1 ?_
      have w := w.2
      generalize eh2 : ft_hs h (r0 + 1) x1.toNat (h (r0 + 1) x2.toNat) = h2
      have w := w h2 eh2.symm
      refine fv_aload_n (ft_d o_TL_halve 22 rfl) rfl rfl ?_
      refine fv_getR (b := r0 + 2) (ft_d o_TL_halve 23 rfl) rfl fl_TL_15 hr0 rfl (lyc_9_1 hr0) ?_
      refine fv_iload_n (ft_d o_TL_halve 24 rfl) rfl rfl ?_
      refine fv_aload_n (ft_d o_TL_halve 25 rfl) rfl rfl ?_
      refine fv_getR (b := r0 + 2) (ft_d o_TL_halve 26 rfl) rfl fl_TL_15 hr0 rfl (lyc_9_1 hr0) ?_
      refine fv_iload_n (ft_d o_TL_halve 27 rfl) rfl rfl ?_
      refine fv_iald (ft_d o_TL_halve 28 rfl) rfl (shc_9_1 hr0) w.1 ?_
      have w := w.2
      refine fv_iconst (ft_d o_TL_halve 29 rfl) rfl rfl ?_
      refine fv_idiv (ft_d o_TL_halve 30 rfl) rfl (by decide) ?_
      refine fv_iast (ft_d o_TL_halve 31 rfl) rfl (shc_9_1 hr0) w.1 ?_
      have w := w.2
      generalize eh3 : ft_hs h2 (r0 + 2) x1.toNat (ft_div (h2 (r0 + 2) x2.toNat) 2) = h3
      have w := w h3 eh3.symm
      refine fv_iinc (L' := [some (.inr (.inr r0)), some (.inl (ft_add x1 1)), some (.inl x2)]) (ft_d o_TL_halve 32 rfl) rfl rfl (Nat.le_of_ble_eq_true rfl) rfl ?_
      refine fv_iinc (L' := [some (.inr (.inr r0)), some (.inl (ft_add x1 1)), some (.inl (ft_add x2 1))]) (ft_d o_TL_halve 33 rfl) rfl rfl (Nat.le_of_ble_eq_true rfl) rfl ?_
      refine fv_goto (pc' := 4) (ft_d o_TL_halve 34 rfl) rfl ?_
      exact w
set_option maxRecDepth 20000 in
theorem b_TL_missedBy_0 {r0 : Nat} {r1 : Nat} {h : ftH} {R : Option ftV → ftH → Prop} (hr0 : ft_sh r0 = some (.inl 9)) (hr1 : ft_sh r1 = some (.inl 4))
    (w : ft_V k_TL_missedBy 4 [some (.inr (.inr r0)), some (.inr (.inr r1)), some (.inl 0), some (.inl 0)] [] h R) : ft_V k_TL_missedBy 0 [some (.inr (.inr r0)), some (.inr (.inr r1)), none, none] [] h R := by
  refine fv_iconst (ft_d o_TL_missedBy 0 rfl) rfl rfl ?_
  refine fv_istore_n (L' := [some (.inr (.inr r0)), some (.inr (.inr r1)), some (.inl 0), none]) (ft_d o_TL_missedBy 1 rfl) rfl (Nat.le_of_ble_eq_true rfl) rfl ?_
  refine fv_iconst (ft_d o_TL_missedBy 2 rfl) rfl rfl ?_
  refine fv_istore_n (L' := [some (.inr (.inr r0)), some (.inr (.inr r1)), some (.inl 0), some (.inl 0)]) (ft_d o_TL_missedBy 3 rfl) rfl (Nat.le_of_ble_eq_true rfl) rfl ?_
  exact w
set_option maxRecDepth 20000 in
theorem b_TL_missedBy_4 {r0 : Nat} {r1 : Nat} {x2 : Int} {x3 : Int} {h : ftH} {R : Option ftV → ftH → Prop} (hr0 : ft_sh r0 = some (.inl 9)) (hr1 : ft_sh r1 = some (.inl 4))
    (w : ((h r0 2 ≤ x3 → R (some (.inl x2)) h) ∧ (¬ (h r0 2 ≤ x3) → ((0 ≤ x3 ∧ x3 < 40) ∧ (∃ R1 : Option ftV → ftH → Prop, ft_C k_PS_answersByHop [.inr (.inr r1), .inr (.inl (h (r0 + 1) x3.toNat))] h R1 ∧ ∀ (z3 : Int) (h1 : ftH), ft_in z3 → R1 (some (.inl z3)) h1 → ((¬ (z3 = 0) → ft_V k_TL_missedBy 4 [some (.inr (.inr r0)), some (.inr (.inr r1)), some (.inl x2), some (.inl (ft_add x3 1))] [] h1 R) ∧ (z3 = 0 → ((0 ≤ x3 ∧ x3 < 40) ∧ (∀ n4 : Int, n4 = ft_add x2 (h1 (r0 + 2) x3.toNat) → ft_V k_TL_missedBy 4 [some (.inr (.inr r0)), some (.inr (.inr r1)), some (.inl n4), some (.inl (ft_add x3 1))] [] h1 R))))))))) : ft_V k_TL_missedBy 4 [some (.inr (.inr r0)), some (.inr (.inr r1)), some (.inl x2), some (.inl x3)] [] h R := by
  refine fv_iload_n (ft_d o_TL_missedBy 4 rfl) rfl rfl ?_
  refine fv_aload_n (ft_d o_TL_missedBy 5 rfl) rfl rfl ?_
  refine fv_getI (ft_d o_TL_missedBy 6 rfl) rfl fl_TL_19 hr0 rfl ?_
  refine fv_icmp_ge (tgt := 40) (ft_d o_TL_missedBy 7 rfl) rfl rfl (fun c => ?_) (fun c => ?_)
  · have w := w.1 c
    refine fv_iload_n (ft_d o_TL_missedBy 24 rfl) rfl rfl ?_
    exact fv_ireturn (ft_d o_TL_missedBy 25 rfl) rfl w
  · have w := w.2 c
    refine fv_aload_n (ft_d o_TL_missedBy 8 rfl) rfl rfl ?_
    refine fv_aload_n (ft_d o_TL_missedBy 9 rfl) rfl rfl ?_
    refine fv_getR (b := r0 + 1) (ft_d o_TL_missedBy 10 rfl) rfl fl_TL_9 hr0 rfl (lyc_9_0 hr0) ?_
    refine fv_iload_n (ft_d o_TL_missedBy 11 rfl) rfl rfl ?_
    refine fv_lald (ft_d o_TL_missedBy 12 rfl) rfl (shc_9_0 hr0) w.1 ?_
    have w := w.2
    obtain ⟨R1, c2, w⟩ := w
    refine fv_calli (st := []) (Or.inr rfl) rfl (ft_mm (pre := [.inr (.inl (h (r0 + 1) x3.toNat)), .inr (.inr r1)]) rfl) (ft_rnV (K' := k_PS_answersByHop) (As := [.inr (.inl (h (r0 + 1) x3.toNat))]) (ft_d o_TL_missedBy 13 rfl) ml_TL_48 li_PS_answersByHop.1 li_PS_answersByHop.2 lw_PS_answersByHop ⟨rfl, rfl, Nat.le_of_ble_eq_true rfl, Nat.le_of_ble_eq_true rfl⟩ hr1 rfl rfl rfl rfl (Nat.le_of_ble_eq_true rfl) c2) (fun z3 h1 hz hw => ?_)
    have w := w z3 h1 hz hw
    refine fv_if_ne (tgt := 34) (ft_d o_TL_missedBy 14 rfl) rfl rfl (fun c => ?_) (fun c => ?_)
    · have w := w.1 c
      refine fv_iinc (L' := [some (.inr (.inr r0)), some (.inr (.inr r1)), some (.inl x2), some (.inl (ft_add x3 1))]) (ft_d o_TL_missedBy 22 rfl) rfl rfl (Nat.le_of_ble_eq_true rfl) rfl ?_
      refine fv_goto (pc' := 4) (ft_d o_TL_missedBy 23 rfl) rfl ?_
      exact w
    · have w := w.2 c
      refine fv_iload_n (ft_d o_TL_missedBy 15 rfl) rfl rfl ?_
      refine fv_aload_n (ft_d o_TL_missedBy 16 rfl) rfl rfl ?_
      refine fv_getR (b := r0 + 2) (ft_d o_TL_missedBy 17 rfl) rfl fl_TL_15 hr0 rfl (lyc_9_1 hr0) ?_
      refine fv_iload_n (ft_d o_TL_missedBy 18 rfl) rfl rfl ?_
      refine fv_iald (ft_d o_TL_missedBy 19 rfl) rfl (shc_9_1 hr0) w.1 ?_
      have w := w.2
      refine fv_iadd (ft_d o_TL_missedBy 20 rfl) rfl ?_
      generalize en4 : ft_add x2 (h1 (r0 + 2) x3.toNat) = n4
      have w := w n4 en4.symm
      refine fv_istore_n (L' := [some (.inr (.inr r0)), some (.inr (.inr r1)), some (.inl n4), some (.inl x3)]) (ft_d o_TL_missedBy 21 rfl) rfl (Nat.le_of_ble_eq_true rfl) rfl ?_
      refine fv_iinc (L' := [some (.inr (.inr r0)), some (.inr (.inr r1)), some (.inl n4), some (.inl (ft_add x3 1))]) (ft_d o_TL_missedBy 22 rfl) rfl rfl (Nat.le_of_ble_eq_true rfl) rfl ?_
      refine fv_goto (pc' := 4) (ft_d o_TL_missedBy 23 rfl) rfl ?_
      exact w
