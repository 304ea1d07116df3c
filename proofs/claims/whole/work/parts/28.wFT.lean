/-! printed by wip/whole/gen/gen10.py: what must hold at each cut point -/
set_option maxRecDepth 20000 in
theorem b_FT_append_0 {x1 : Int} {x2 : Int} {x3 : Int} {x4 : Int} {x5 : Int} {h : ftH} {R : Option ftV → ftH → Prop} 
    (w : ((ft_add (h 113 1) 20 ≤ 2200 → (∃ R1 : Option ftV → ftH → Prop, ft_C k_Ta_addFour [.inr (.inr 113), .inl x1] h R1 ∧ ∀ h1 : ftH, R1 none h1 → (∃ R3 : Option ftV → ftH → Prop, ft_C k_Ta_addFour [.inr (.inr 113), .inl x2] h1 R3 ∧ ∀ h2 : ftH, R3 none h2 → (∃ R5 : Option ftV → ftH → Prop, ft_C k_Ta_addFour [.inr (.inr 113), .inl x3] h2 R5 ∧ ∀ h3 : ftH, R5 none h3 → (∃ R7 : Option ftV → ftH → Prop, ft_C k_Ta_addFour [.inr (.inr 113), .inl x4] h3 R7 ∧ ∀ h4 : ftH, R7 none h4 → (∃ R9 : Option ftV → ftH → Prop, ft_C k_Ta_addFour [.inr (.inr 113), .inl x5] h4 R9 ∧ ∀ h5 : ftH, R9 none h5 → R (some (.inl (h5 113 1))) h5)))))) ∧ (¬ (ft_add (h 113 1) 20 ≤ 2200) → R (some (.inl ((-1)))) h))) : ft_V k_FT_append 0 [some (.inr (.inr 0)), some (.inl x1), some (.inl x2), some (.inl x3), some (.inl x4), some (.inl x5)] [] h R := by
  refine fv_aload_n (ft_d o_FT_append 0 rfl) rfl rfl ?_
  refine fv_getR (b := 113) (ft_d o_FT_append 1 rfl) rfl fl_FT_29 sh_0 rfl ly_0_3 ?_
  refine fv_getI (ft_d o_FT_append 2 rfl) rfl fl_FT_96 sh_113 rfl ?_
  refine fv_bipush (ft_d o_FT_append 3 rfl) rfl rfl ?_
  refine fv_iadd (ft_d o_FT_append 4 rfl) rfl ?_
  refine fv_sipush (ft_d o_FT_append 5 rfl) rfl rfl ?_
  refine fv_icmp_le (tgt := 18) (ft_d o_FT_append 6 rfl) rfl rfl (fun c => ?_) (fun c => ?_)
  · have w := w.1 c
    refine fv_aload_n (ft_d o_FT_append 9 rfl) rfl rfl ?_
    refine fv_getR (b := 113) (ft_d o_FT_append 10 rfl) rfl fl_FT_29 sh_0 rfl ly_0_3 ?_
    refine fv_iload_n (ft_d o_FT_append 11 rfl) rfl rfl ?_
    obtain ⟨R1, c2, w⟩ := w
    refine fv_callv (st := []) rfl rfl (ft_mm (pre := [.inl x1, .inr (.inr 113)]) rfl) (ft_rnV (K' := k_Ta_addFour) (As := [.inl x1]) (ft_d o_FT_append 12 rfl) ml_FT_99 li_Ta_addFour.1 li_Ta_addFour.2 lw_Ta_addFour ⟨rfl, rfl, Nat.le_of_ble_eq_true rfl, Nat.le_of_ble_eq_true rfl⟩ sh_113 rfl rfl rfl rfl (Nat.le_of_ble_eq_true rfl) c2) (fun h1 hw => ?_)
    have w := w h1 hw
    refine fv_aload_n (ft_d o_FT_append 13 rfl) rfl rfl ?_
    refine fv_getR (b := 113) (ft_d o_FT_append 14 rfl) rfl fl_FT_29 sh_0 rfl ly_0_3 ?_
    refine fv_iload_n (ft_d o_FT_append 15 rfl) rfl rfl ?_
    obtain ⟨R3, c4, w⟩ := w
    refine fv_callv (st := []) rfl rfl (ft_mm (pre := [.inl x2, .inr (.inr 113)]) rfl) (ft_rnV (K' := k_Ta_addFour) (As := [.inl x2]) (ft_d o_FT_append 16 rfl) ml_FT_99 li_Ta_addFour.1 li_Ta_addFour.2 lw_Ta_addFour ⟨rfl, rfl, Nat.le_of_ble_eq_true rfl, Nat.le_of_ble_eq_true rfl⟩ sh_113 rfl rfl rfl rfl (Nat.le_of_ble_eq_true rfl) c4) (fun h2 hw => ?_)
    have w := w h2 hw
    refine fv_aload_n (ft_d o_FT_append 17 rfl) rfl rfl ?_
    refine fv_getR (b := 113) (ft_d o_FT_append 18 rfl) rfl fl_FT_29 sh_0 rfl ly_0_3 ?_
    refine fv_iload_n (ft_d o_FT_append 19 rfl) rfl rfl ?_
    obtain ⟨R5, c6, w⟩ := w
    refine fv_callv (st := []) rfl rfl (ft_mm (pre := [.inl x3, .inr (.inr 113)]) rfl) (ft_rnV (K' := k_Ta_addFour) (As := [.inl x3]) (ft_d o_FT_append 20 rfl) ml_FT_99 li_Ta_addFour.1 li_Ta_addFour.2 lw_Ta_addFour ⟨rfl, rfl, Nat.le_of_ble_eq_true rfl, Nat.le_of_ble_eq_true rfl⟩ sh_113 rfl rfl rfl rfl (Nat.le_of_ble_eq_true rfl) c6) (fun h3 hw => ?_)
    have w := w h3 hw
    refine fv_aload_n (ft_d o_FT_append 21 rfl) rfl rfl ?_
    refine fv_getR (b := 113) (ft_d o_FT_append 22 rfl) rfl fl_FT_29 sh_0 rfl ly_0_3 ?_
    refine fv_iload (ft_d o_FT_append 23 rfl) rfl rfl ?_
    obtain ⟨R7, c8, w⟩ := w
    refine fv_callv (st := []) rfl rfl (ft_mm (pre := [.inl x4, .inr (.inr 113)]) rfl) (ft_rnV (K' := k_Ta_addFour) (As := [.inl x4]) (ft_d o_FT_append 24 rfl) ml_FT_99 li_Ta_addFour.1 li_Ta_addFour.2 lw_Ta_addFour ⟨rfl, rfl, Nat.le_of_ble_eq_true rfl, Nat.le_of_ble_eq_true rfl⟩ sh_113 rfl rfl rfl rfl (Nat.le_of_ble_eq_true rfl) c8) (fun h4 hw => ?_)
    have w := w h4 hw
    refine fv_aload_n (ft_d o_FT_append 25 rfl) rfl rfl ?_
    refine fv_getR (b := 113) (ft_d o_FT_append 26 rfl) rfl fl_FT_29 sh_0 rfl ly_0_3 ?_
    refine fv_iload (ft_d o_FT_append 27 rfl) rfl rfl ?_
    obtain ⟨R9, c10, w⟩ := w
    refine fv_callv (st := []) rfl rfl (ft_mm (pre := [.inl x5, .inr (.inr 113)]) rfl) (ft_rnV (K' := k_Ta_addFour) (As := [.inl x5]) (ft_d o_FT_append 28 rfl) ml_FT_99 li_Ta_addFour.1 li_Ta_addFour.2 lw_Ta_addFour ⟨rfl, rfl, Nat.le_of_ble_eq_true rfl, Nat.le_of_ble_eq_true rfl⟩ sh_113 rfl rfl rfl rfl (Nat.le_of_ble_eq_true rfl) c10) (fun h5 hw => ?_)
    have w := w h5 hw
    refine fv_aload_n (ft_d o_FT_append 29 rfl) rfl rfl ?_
    refine fv_getR (b := 113) (ft_d o_FT_append 30 rfl) rfl fl_FT_29 sh_0 rfl ly_0_3 ?_
    refine fv_getI (ft_d o_FT_append 31 rfl) rfl fl_FT_96 sh_113 rfl ?_
    exact fv_ireturn (ft_d o_FT_append 32 rfl) rfl w
  · have w := w.2 c
    refine fv_iconst (ft_d o_FT_append 7 rfl) rfl rfl ?_
    exact fv_ireturn (ft_d o_FT_append 8 rfl) rfl w
set_option maxRecDepth 20000 in
theorem b_FT_truncate_0 {x1 : Int} {h : ftH} {R : Option ftV → ftH → Prop} 
    (w : ((x1 < 0 → R (some (.inl ((-1)))) h) ∧ (¬ (x1 < 0) → ((x1 ≤ h 113 1 → (∀ h1 : ftH, h1 = ft_hs h 113 1 (ft_sub (h 113 1) x1) → R (some (.inl (h1 113 1))) h1)) ∧ (¬ (x1 ≤ h 113 1) → R (some (.inl ((-1)))) h))))) : ft_V k_FT_truncate 0 [some (.inr (.inr 0)), some (.inl x1)] [] h R := by
  refine fv_iload_n (ft_d o_FT_truncate 0 rfl) rfl rfl ?_
  refine fv_if_lt (tgt := 15) (ft_d o_FT_truncate 1 rfl) rfl rfl (fun c => ?_) (fun c => ?_)
  · have w := w.1 c
    refine fv_iconst (ft_d o_FT_truncate 7 rfl) rfl rfl ?_
    exact fv_ireturn (ft_d o_FT_truncate 8 rfl) rfl w
  · have w := w.2 c
    refine fv_iload_n (ft_d o_FT_truncate 2 rfl) rfl rfl ?_
    refine fv_aload_n (ft_d o_FT_truncate 3 rfl) rfl rfl ?_
    refine fv_getR (b := 113) (ft_d o_FT_truncate 4 rfl) rfl fl_FT_29 sh_0 rfl ly_0_3 ?_
    refine fv_getI (ft_d o_FT_truncate 5 rfl) rfl fl_FT_96 sh_113 rfl ?_
    refine fv_icmp_le (tgt := 17) (ft_d o_FT_truncate 6 rfl) rfl rfl (fun c => ?_) (fun c => ?_)
    · have w := w.1 c
      refine fv_aload_n (ft_d o_FT_truncate 9 rfl) rfl rfl ?_
      refine fv_getR (b := 113) (ft_d o_FT_truncate 10 rfl) rfl fl_FT_29 sh_0 rfl ly_0_3 ?_
      refine fv_dup (ft_d o_FT_truncate 11 rfl) rfl rfl ?_
      refine fv_getI (ft_d o_FT_truncate 12 rfl) rfl fl_FT_96 sh_113 rfl ?_
      refine fv_iload_n (ft_d o_FT_truncate 13 rfl) rfl rfl ?_
      refine fv_isub (ft_d o_FT_truncate 14 rfl) rfl ?_
      refine fv_putI (ft_d o_FT_truncate 15 rfl) rfl fl_FT_96 rfl rfl sh_113 rfl ?_
      generalize eh1 : ft_hs h 113 1 (ft_sub (h 113 1) x1) = h1
      have w := w h1 eh1.symm
      refine fv_aload_n (ft_d o_FT_truncate 16 rfl) rfl rfl ?_
      refine fv_getR (b := 113) (ft_d o_FT_truncate 17 rfl) rfl fl_FT_29 sh_0 rfl ly_0_3 ?_
      refine fv_getI (ft_d o_FT_truncate 18 rfl) rfl fl_FT_96 sh_113 rfl ?_
      exact fv_ireturn (ft_d o_FT_truncate 19 rfl) rfl w
    · have w := w.2 c
      refine fv_iconst (ft_d o_FT_truncate 7 rfl) rfl rfl ?_
      exact fv_ireturn (ft_d o_FT_truncate 8 rfl) rfl w
set_option maxRecDepth 20000 in
theorem b_FT_load_0  {h : ftH} {R : Option ftV → ftH → Prop} 
    (w : (∃ R1 : Option ftV → ftH → Prop, ft_C k_St_reset [.inr (.inr 12)] h R1 ∧ ∀ h1 : ftH, R1 none h1 → (∃ R3 : Option ftV → ftH → Prop, ft_C k_Ta_readInto [.inr (.inr 113), .inr (.inr 12)] h1 R3 ∧ ∀ (z5 : Int) (h2 : ftH), ft_in z5 → R3 (some (.inl z5)) h2 → ((z5 = 0 → (∀ h3 : ftH, h3 = ft_hs h2 0 4 (h2 113 2) → (∀ h4 : ftH, h4 = ft_hs h3 113 1 0 → ((¬ (z5 = 0) → (∃ R6 : Option ftV → ftH → Prop, ft_C k_St_copyFrom [.inr (.inr 1), .inr (.inr 12)] h4 R6 ∧ ∀ h5 : ftH, R6 none h5 → (∃ R8 : Option ftV → ftH → Prop, ft_C k_Hi_forget [.inr (.inr 23)] h5 R8 ∧ ∀ h6 : ftH, R8 none h6 → (∃ R10 : Option ftV → ftH → Prop, ft_C k_FT_unsettle [.inr (.inr 0), .inl 0] h6 R10 ∧ ∀ h7 : ftH, R10 none h7 → R (some (.inl (h7 2 2))) h7)))) ∧ (z5 = 0 → R (some (.inl ((-1)))) h4))))) ∧ (¬ (z5 = 0) → (∀ h8 : ftH, h8 = ft_hs h2 0 4 ((-2)) → (∀ h9 : ftH, h9 = ft_hs h8 113 1 0 → ((¬ (z5 = 0) → (∃ R12 : Option ftV → ftH → Prop, ft_C k_St_copyFrom [.inr (.inr 1), .inr (.inr 12)] h9 R12 ∧ ∀ h10 : ftH, R12 none h10 → (∃ R14 : Option ftV → ftH → Prop, ft_C k_Hi_forget [.inr (.inr 23)] h10 R14 ∧ ∀ h11 : ftH, R14 none h11 → (∃ R16 : Option ftV → ftH → Prop, ft_C k_FT_unsettle [.inr (.inr 0), .inl 0] h11 R16 ∧ ∀ h12 : ftH, R16 none h12 → R (some (.inl (h12 2 2))) h12)))) ∧ (z5 = 0 → R (some (.inl ((-1)))) h9))))))))) : ft_V k_FT_load 0 [some (.inr (.inr 0)), none] [] h R := by
  refine fv_aload_n (ft_d o_FT_load 0 rfl) rfl rfl ?_
  refine fv_getR (b := 12) (ft_d o_FT_load 1 rfl) rfl fl_FT_16 sh_0 rfl ly_0_1 ?_
  obtain ⟨R1, c2, w⟩ := w
  refine fv_callv (st := []) rfl rfl (ft_mm (pre := [.inr (.inr 12)]) rfl) (ft_rnV (K' := k_St_reset) (As := []) (ft_d o_FT_load 2 rfl) ml_FT_102 li_St_reset.1 li_St_reset.2 lw_St_reset ⟨rfl, rfl, Nat.le_of_ble_eq_true rfl, Nat.le_of_ble_eq_true rfl⟩ sh_12 rfl rfl rfl rfl (Nat.le_of_ble_eq_true rfl) c2) (fun h1 hw => ?_)
  have w := w h1 hw
  refine fv_aload_n (ft_d o_FT_load 3 rfl) rfl rfl ?_
  refine fv_getR (b := 113) (ft_d o_FT_load 4 rfl) rfl fl_FT_29 sh_0 rfl ly_0_3 ?_
  refine fv_aload_n (ft_d o_FT_load 5 rfl) rfl rfl ?_
  refine fv_getR (b := 12) (ft_d o_FT_load 6 rfl) rfl fl_FT_16 sh_0 rfl ly_0_1 ?_
  obtain ⟨R3, c4, w⟩ := w
  refine fv_calli (st := []) (Or.inr rfl) rfl (ft_mm (pre := [.inr (.inr 12), .inr (.inr 113)]) rfl) (ft_rnV (K' := k_Ta_readInto) (As := [.inr (.inr 12)]) (ft_d o_FT_load 7 rfl) ml_FT_105 li_Ta_readInto.1 li_Ta_readInto.2 lw_Ta_readInto ⟨rfl, rfl, Nat.le_of_ble_eq_true rfl, Nat.le_of_ble_eq_true rfl⟩ sh_113 rfl rfl rfl rfl (Nat.le_of_ble_eq_true rfl) c4) (fun z5 h2 hz hw => ?_)
  have w := w z5 h2 hz hw
  refine fv_istore_n (L' := [some (.inr (.inr 0)), some (.inl z5)]) (ft_d o_FT_load 8 rfl) rfl (Nat.le_of_ble_eq_true rfl) rfl ?_
  refine fv_aload_n (ft_d o_FT_load 9 rfl) rfl rfl ?_
  refine fv_iload_n (ft_d o_FT_load 10 rfl) rfl rfl ?_
  refine fv_if_eq (tgt := 29) (ft_d o_FT_load 11 rfl) rfl rfl (fun c => ?_) (fun c => ?_)
  · have w := w.1 c
    refine fv_aload_n (ft_d o_FT_load 14 rfl) rfl rfl ?_
    refine fv_getR (b := 113) (ft_d o_FT_load 15 rfl) rfl fl_FT_29 sh_0 rfl ly_0_3 ?_
    refine fv_getI (ft_d o_FT_load 16 rfl) rfl fl_FT_109 sh_113 rfl ?_
    refine fv_putI (ft_d o_FT_load 17 rfl) rfl fl_FT_33 rfl rfl sh_0 rfl ?_
    generalize eh3 : ft_hs h2 0 4 (h2 113 2) = h3
    have w := w h3 eh3.symm
    refine fv_aload_n (ft_d o_FT_load 18 rfl) rfl rfl ?_
    refine fv_getR (b := 113) (ft_d o_FT_load 19 rfl) rfl fl_FT_29 sh_0 rfl ly_0_3 ?_
    refine fv_iconst (ft_d o_FT_load 20 rfl) rfl rfl ?_
    refine fv_putI (ft_d o_FT_load 21 rfl) rfl fl_FT_96 rfl rfl sh_113 rfl ?_
    generalize eh4 : ft_hs h3 113 1 0 = h4
    have w := w h4 eh4.symm
    refine fv_iload_n (ft_d o_FT_load 22 rfl) rfl rfl ?_
    refine fv_if_ne (tgt := 53) (ft_d o_FT_load 23 rfl) rfl rfl (fun c => ?_) (fun c => ?_)
    · have w := w.1 c
      refine fv_aload_n (ft_d o_FT_load 26 rfl) rfl rfl ?_
      refine fv_getR (b := 1) (ft_d o_FT_load 27 rfl) rfl fl_FT_12 sh_0 rfl ly_0_0 ?_
      refine fv_aload_n (ft_d o_FT_load 28 rfl) rfl rfl ?_
      refine fv_getR (b := 12) (ft_d o_FT_load 29 rfl) rfl fl_FT_16 sh_0 rfl ly_0_1 ?_
      obtain ⟨R6, c7, w⟩ := w
      refine fv_callv (st := []) rfl rfl (ft_mm (pre := [.inr (.inr 12), .inr (.inr 1)]) rfl) (ft_rnV (K' := k_St_copyFrom) (As := [.inr (.inr 12)]) (ft_d o_FT_load 30 rfl) ml_FT_112 li_St_copyFrom.1 li_St_copyFrom.2 lw_St_copyFrom ⟨rfl, rfl, Nat.le_of_ble_eq_true rfl, Nat.le_of_ble_eq_true rfl⟩ sh_1 rfl rfl rfl rfl (Nat.le_of_ble_eq_true rfl) c7) (fun h5 hw => ?_)
      have w := w h5 hw
      refine fv_aload_n (ft_d o_FT_load 31 rfl) rfl rfl ?_
      refine fv_getR (b := 23) (ft_d o_FT_load 32 rfl) rfl fl_FT_22 sh_0 rfl ly_0_2 ?_
      obtain ⟨R8, c9, w⟩ := w
      refine fv_callv (st := []) rfl rfl (ft_mm (pre := [.inr (.inr 23)]) rfl) (ft_rnV (K' := k_Hi_forget) (As := []) (ft_d o_FT_load 33 rfl) ml_FT_116 li_Hi_forget.1 li_Hi_forget.2 lw_Hi_forget ⟨rfl, rfl, Nat.le_of_ble_eq_true rfl, Nat.le_of_ble_eq_true rfl⟩ sh_23 rfl rfl rfl rfl (Nat.le_of_ble_eq_true rfl) c9) (fun h6 hw => ?_)
      have w := w h6 hw
      refine fv_aload_n (ft_d o_FT_load 34 rfl) rfl rfl ?_
      refine fv_iconst (ft_d o_FT_load 35 rfl) rfl rfl ?_
      obtain ⟨R10, c11, w⟩ := w
      refine fv_callv (st := []) rfl rfl (ft_mm (pre := [.inl 0, .inr (.inr 0)]) rfl) (ft_rnV (K' := k_FT_unsettle) (As := [.inl 0]) (ft_d o_FT_load 36 rfl) ml_FT_119 li_FT_unsettle.1 li_FT_unsettle.2 lw_FT_unsettle ⟨rfl, rfl, Nat.le_of_ble_eq_true rfl, Nat.le_of_ble_eq_true rfl⟩ sh_0 rfl rfl rfl rfl (Nat.le_of_ble_eq_true rfl) c11) (fun h7 hw => ?_)
      have w := w h7 hw
      refine fv_aload_n (ft_d o_FT_load 37 rfl) rfl rfl ?_
      refine fv_getR (b := 1) (ft_d o_FT_load 38 rfl) rfl fl_FT_12 sh_0 rfl ly_0_0 ?_
      refine fv_getR (b := 2) (ft_d o_FT_load 39 rfl) rfl fl_FT_122 sh_1 rfl ly_1_1 ?_
      refine fv_getI (ft_d o_FT_load 40 rfl) rfl fl_FT_125 sh_2 rfl ?_
      exact fv_ireturn (ft_d o_FT_load 41 rfl) rfl w
    · have w := w.2 c
      refine fv_iconst (ft_d o_FT_load 24 rfl) rfl rfl ?_
      exact fv_ireturn (ft_d o_FT_load 25 rfl) rfl w
  · have w := w.2 c
    refine fv_bipush (ft_d o_FT_load 12 rfl) rfl rfl ?_
    refine fv_goto (pc' := 36) (ft_d o_FT_load 13 rfl) rfl ?_
    refine fv_putI (ft_d o_FT_load 17 rfl) rfl fl_FT_33 rfl rfl sh_0 rfl ?_
    generalize eh8 : ft_hs h2 0 4 ((-2)) = h8
    have w := w h8 eh8.symm
    refine fv_aload_n (ft_d o_FT_load 18 rfl) rfl rfl ?_
    refine fv_getR (b := 113) (ft_d o_FT_load 19 rfl) rfl fl_FT_29 sh_0 rfl ly_0_3 ?_
    refine fv_iconst (ft_d o_FT_load 20 rfl) rfl rfl ?_
    refine fv_putI (ft_d o_FT_load 21 rfl) rfl fl_FT_96 rfl rfl sh_113 rfl ?_
    generalize eh9 : ft_hs h8 113 1 0 = h9
    have w := w h9 eh9.symm
    refine fv_iload_n (ft_d o_FT_load 22 rfl) rfl rfl ?_
    refine fv_if_ne (tgt := 53) (ft_d o_FT_load 23 rfl) rfl rfl (fun c => ?_) (fun c => ?_)
    · have w := w.1 c
      refine fv_aload_n (ft_d o_FT_load 26 rfl) rfl rfl ?_
      refine fv_getR (b := 1) (ft_d o_FT_load 27 rfl) rfl fl_FT_12 sh_0 rfl ly_0_0 ?_
      refine fv_aload_n (ft_d o_FT_load 28 rfl) rfl rfl ?_
      refine fv_getR (b := 12) (ft_d o_FT_load 29 rfl) rfl fl_FT_16 sh_0 rfl ly_0_1 ?_
      obtain ⟨R12, c13, w⟩ := w
      refine fv_callv (st := []) rfl rfl (ft_mm (pre := [.inr (.inr 12), .inr (.inr 1)]) rfl) (ft_rnV (K' := k_St_copyFrom) (As := [.inr (.inr 12)]) (ft_d o_FT_load 30 rfl) ml_FT_112 li_St_copyFrom.1 li_St_copyFrom.2 lw_St_copyFrom ⟨rfl, rfl, Nat.le_of_ble_eq_true rfl, Nat.le_of_ble_eq_true rfl⟩ sh_1 rfl rfl rfl rfl (Nat.le_of_ble_eq_true rfl) c13) (fun h10 hw => ?_)
      have w := w h10 hw
      refine fv_aload_n (ft_d o_FT_load 31 rfl) rfl rfl ?_
      refine fv_getR (b := 23) (ft_d o_FT_load 32 rfl) rfl fl_FT_22 sh_0 rfl ly_0_2 ?_
      obtain ⟨R14, c15, w⟩ := w
      refine fv_callv (st := []) rfl rfl (ft_mm (pre := [.inr (.inr 23)]) rfl) (ft_rnV (K' := k_Hi_forget) (As := []) (ft_d o_FT_load 33 rfl) ml_FT_116 li_Hi_forget.1 li_Hi_forget.2 lw_Hi_forget ⟨rfl, rfl, Nat.le_of_ble_eq_true rfl, Nat.le_of_ble_eq_true rfl⟩ sh_23 rfl rfl rfl rfl (Nat.le_of_ble_eq_true rfl) c15) (fun h11 hw => ?_)
      have w := w h11 hw
      refine fv_aload_n (ft_d o_FT_load 34 rfl) rfl rfl ?_
      refine fv_iconst (ft_d o_FT_load 35 rfl) rfl rfl ?_
      obtain ⟨R16, c17, w⟩ := w
      refine fv_callv (st := []) rfl rfl (ft_mm (pre := [.inl 0, .inr (.inr 0)]) rfl) (ft_rnV (K' := k_FT_unsettle) (As := [.inl 0]) (ft_d o_FT_load 36 rfl) ml_FT_119 li_FT_unsettle.1 li_FT_unsettle.2 lw_FT_unsettle ⟨rfl, rfl, Nat.le_of_ble_eq_true rfl, Nat.le_of_ble_eq_true rfl⟩ sh_0 rfl rfl rfl rfl (Nat.le_of_ble_eq_true rfl) c17) (fun h12 hw => ?_)
      have w := w h12 hw
      refine fv_aload_n (ft_d o_FT_load 37 rfl) rfl rfl ?_
      refine fv_getR (b := 1) (ft_d o_FT_load 38 rfl) rfl fl_FT_12 sh_0 rfl ly_0_0 ?_
      refine fv_getR (b := 2) (ft_d o_FT_load 39 rfl) rfl fl_FT_122 sh_1 rfl ly_1_1 ?_
      refine fv_getI (ft_d o_FT_load 40 rfl) rfl fl_FT_125 sh_2 rfl ?_
      exact fv_ireturn (ft_d o_FT_load 41 rfl) rfl w
    · have w := w.2 c
      refine fv_iconst (ft_d o_FT_load 24 rfl) rfl rfl ?_
      exact fv_ireturn (ft_d o_FT_load 25 rfl) rfl w
set_option maxRecDepth 20000 in
theorem b_FT_errorPosition_0  {h : ftH} {R : Option ftV → ftH → Prop} 
    (w : R (some (.inl (h 0 4))) h) : ft_V k_FT_errorPosition 0 [some (.inr (.inr 0))] [] h R := by
  refine fv_aload_n (ft_d o_FT_errorPosition 0 rfl) rfl rfl ?_
  refine fv_getI (ft_d o_FT_errorPosition 1 rfl) rfl fl_FT_33 sh_0 rfl ?_
  exact fv_ireturn (ft_d o_FT_errorPosition 2 rfl) rfl w
set_option maxRecDepth 20000 in
theorem b_FT_tapeLength_0  {h : ftH} {R : Option ftV → ftH → Prop} 
    (w : R (some (.inl (h 113 1))) h) : ft_V k_FT_tapeLength 0 [some (.inr (.inr 0))] [] h R := by
  refine fv_aload_n (ft_d o_FT_tapeLength 0 rfl) rfl rfl ?_
  refine fv_getR (b := 113) (ft_d o_FT_tapeLength 1 rfl) rfl fl_FT_29 sh_0 rfl ly_0_3 ?_
  refine fv_getI (ft_d o_FT_tapeLength 2 rfl) rfl fl_FT_96 sh_113 rfl ?_
  exact fv_ireturn (ft_d o_FT_tapeLength 3 rfl) rfl w
set_option maxRecDepth 20000 in
theorem b_FT_capacity_0  {h : ftH} {R : Option ftV → ftH → Prop} 
    (w : R (some (.inl (h 1 0))) h) : ft_V k_FT_capacity 0 [some (.inr (.inr 0))] [] h R := by
  refine fv_aload_n (ft_d o_FT_capacity 0 rfl) rfl rfl ?_
  refine fv_getR (b := 1) (ft_d o_FT_capacity 1 rfl) rfl fl_FT_12 sh_0 rfl ly_0_0 ?_
  refine fv_getI (ft_d o_FT_capacity 2 rfl) rfl fl_FT_126 sh_1 rfl ?_
  exact fv_ireturn (ft_d o_FT_capacity 3 rfl) rfl w
set_option maxRecDepth 20000 in
theorem b_FT_setCapacity_0 {x1 : Int} {h : ftH} {R : Option ftV → ftH → Prop} 
    (w : ((x1 < 1 → R (some (.inl 0)) h) ∧ (¬ (x1 < 1) → ((40 < x1 → R (some (.inl 0)) h) ∧ (¬ (40 < x1) → ((¬ (x1 = h 1 0) → (∃ R1 : Option ftV → ftH → Prop, ft_C k_Hi_save [.inr (.inr 23), .inr (.inr 1)] h R1 ∧ ∀ h1 : ftH, R1 none h1 → (∀ h2 : ftH, h2 = ft_hs h1 1 0 x1 → ((0 ≤ h2 1 0 ∧ h2 1 0 ≤ 1000) ∧ ((h2 5 2 ≤ 2 * h2 1 0 → (∃ R5 : Option ftV → ftH → Prop, ft_C k_FT_unsettle [.inr (.inr 0), .inl 2] h2 R5 ∧ ∀ h3 : ftH, R5 none h3 → R (some (.inl 1)) h3)) ∧ (¬ (h2 5 2 ≤ 2 * h2 1 0) → (∃ R7 : Option ftV → ftH → Prop, ft_C k_St_emptyHardware [.inr (.inr 1)] h2 R7 ∧ ∀ h4 : ftH, R7 none h4 → (∃ R9 : Option ftV → ftH → Prop, ft_C k_FT_unsettle [.inr (.inr 0), .inl 2] h4 R9 ∧ ∀ h5 : ftH, R9 none h5 → R (some (.inl 1)) h5)))))))) ∧ (x1 = h 1 0 → R (some (.inl 0)) h))))))) : ft_V k_FT_setCapacity 0 [some (.inr (.inr 0)), some (.inl x1)] [] h R := by
  refine fv_iload_n (ft_d o_FT_setCapacity 0 rfl) rfl rfl ?_
  refine fv_iconst (ft_d o_FT_setCapacity 1 rfl) rfl rfl ?_
  refine fv_icmp_lt (tgt := 22) (ft_d o_FT_setCapacity 2 rfl) rfl rfl (fun c => ?_) (fun c => ?_)
  · have w := w.1 c
    refine fv_iconst (ft_d o_FT_setCapacity 11 rfl) rfl rfl ?_
    exact fv_zreturn (ft_d o_FT_setCapacity 12 rfl) rfl (Or.inl rfl) w
  · have w := w.2 c
    refine fv_iload_n (ft_d o_FT_setCapacity 3 rfl) rfl rfl ?_
    refine fv_bipush (ft_d o_FT_setCapacity 4 rfl) rfl rfl ?_
    refine fv_icmp_gt (tgt := 22) (ft_d o_FT_setCapacity 5 rfl) rfl rfl (fun c => ?_) (fun c => ?_)
    · have w := w.1 c
      refine fv_iconst (ft_d o_FT_setCapacity 11 rfl) rfl rfl ?_
      exact fv_zreturn (ft_d o_FT_setCapacity 12 rfl) rfl (Or.inl rfl) w
    · have w := w.2 c
      refine fv_iload_n (ft_d o_FT_setCapacity 6 rfl) rfl rfl ?_
      refine fv_aload_n (ft_d o_FT_setCapacity 7 rfl) rfl rfl ?_
      refine fv_getR (b := 1) (ft_d o_FT_setCapacity 8 rfl) rfl fl_FT_12 sh_0 rfl ly_0_0 ?_
      refine fv_getI (ft_d o_FT_setCapacity 9 rfl) rfl fl_FT_126 sh_1 rfl ?_
      refine fv_icmp_ne (tgt := 24) (ft_d o_FT_setCapacity 10 rfl) rfl rfl (fun c => ?_) (fun c => ?_)
      · have w := w.1 c
        refine fv_aload_n (ft_d o_FT_setCapacity 13 rfl) rfl rfl ?_
        refine fv_getR (b := 23) (ft_d o_FT_setCapacity 14 rfl) rfl fl_FT_22 sh_0 rfl ly_0_2 ?_
        refine fv_aload_n (ft_d o_FT_setCapacity 15 rfl) rfl rfl ?_
        refine fv_getR (b := 1) (ft_d o_FT_setCapacity 16 rfl) rfl fl_FT_12 sh_0 rfl ly_0_0 ?_
        obtain ⟨R1, c2, w⟩ := w
        refine fv_callv (st := []) rfl rfl (ft_mm (pre := [.inr (.inr 1), .inr (.inr 23)]) rfl) (ft_rnV (K' := k_Hi_save) (As := [.inr (.inr 1)]) (ft_d o_FT_setCapacity 17 rfl) ml_FT_129 li_Hi_save.1 li_Hi_save.2 lw_Hi_save ⟨rfl, rfl, Nat.le_of_ble_eq_true rfl, Nat.le_of_ble_eq_true rfl⟩ sh_23 rfl rfl rfl rfl (Nat.le_of_ble_eq_true rfl) c2) (fun h1 hw => ?_)
        have w := w h1 hw
        refine fv_aload_n (ft_d o_FT_setCapacity 18 rfl) rfl rfl ?_
        refine fv_getR (b := 1) (ft_d o_FT_setCapacity 19 rfl) rfl fl_FT_12 sh_0 rfl ly_0_0 ?_
        refine fv_iload_n (ft_d o_FT_setCapacity 20 rfl) rfl rfl ?_
        refine fv_putI (ft_d o_FT_setCapacity 21 rfl) rfl fl_FT_126 rfl rfl sh_1 rfl ?_
        generalize eh2 : ft_hs h1 1 0 x1 = h2
        have w := w h2 eh2.symm
        refine fv_aload_n (ft_d o_FT_setCapacity 22 rfl) rfl rfl ?_
        refine fv_getR (b := 1) (ft_d o_FT_setCapacity 23 rfl) rfl fl_FT_12 sh_0 rfl ly_0_0 ?_
        refine fv_getR (b := 5) (ft_d o_FT_setCapacity 24 rfl) rfl fl_FT_132 sh_1 rfl ly_1_2 ?_
        refine fv_getI (ft_d o_FT_setCapacity 25 rfl) rfl fl_FT_125 sh_5 rfl ?_
        refine fv_aload_n (ft_d o_FT_setCapacity 26 rfl) rfl rfl ?_
        refine fv_getR (b := 1) (ft_d o_FT_setCapacity 27 rfl) rfl fl_FT_12 sh_0 rfl ly_0_0 ?_
        refine fv_callif (st := [.inl (h2 5 2)]) (z := 2 * h2 1 0) (Or.inl rfl) rfl (ft_mm (pre := [.inr (.inr 1)]) rfl) (ft_rnV (K' := k_St_room) (As := []) (ft_d o_FT_setCapacity 28 rfl) ml_FT_135 li_St_room.1 li_St_room.2 lw_St_room ⟨rfl, rfl, Nat.le_of_ble_eq_true rfl, Nat.le_of_ble_eq_true rfl⟩ sh_1 rfl rfl rfl rfl (Nat.le_of_ble_eq_true rfl) (c_St_room sh_1 w.1)) ?_
        have w := w.2
        refine fv_icmp_le (tgt := 70) (ft_d o_FT_setCapacity 29 rfl) rfl rfl (fun c => ?_) (fun c => ?_)
        · have w := w.1 c
          refine fv_aload_n (ft_d o_FT_setCapacity 33 rfl) rfl rfl ?_
          refine fv_iconst (ft_d o_FT_setCapacity 34 rfl) rfl rfl ?_
          obtain ⟨R5, c6, w⟩ := w
          refine fv_callv (st := []) rfl rfl (ft_mm (pre := [.inl 2, .inr (.inr 0)]) rfl) (ft_rnV (K' := k_FT_unsettle) (As := [.inl 2]) (ft_d o_FT_setCapacity 35 rfl) ml_FT_119 li_FT_unsettle.1 li_FT_unsettle.2 lw_FT_unsettle ⟨rfl, rfl, Nat.le_of_ble_eq_true rfl, Nat.le_of_ble_eq_true rfl⟩ sh_0 rfl rfl rfl rfl (Nat.le_of_ble_eq_true rfl) c6) (fun h3 hw => ?_)
          have w := w h3 hw
          refine fv_iconst (ft_d o_FT_setCapacity 36 rfl) rfl rfl ?_
          exact fv_zreturn (ft_d o_FT_setCapacity 37 rfl) rfl (Or.inr rfl) w
        · have w := w.2 c
          refine fv_aload_n (ft_d o_FT_setCapacity 30 rfl) rfl rfl ?_
          refine fv_getR (b := 1) (ft_d o_FT_setCapacity 31 rfl) rfl fl_FT_12 sh_0 rfl ly_0_0 ?_
          obtain ⟨R7, c8, w⟩ := w
          refine fv_callv (st := []) rfl rfl (ft_mm (pre := [.inr (.inr 1)]) rfl) (ft_rnV (K' := k_St_emptyHardware) (As := []) (ft_d o_FT_setCapacity 32 rfl) ml_FT_139 li_St_emptyHardware.1 li_St_emptyHardware.2 lw_St_emptyHardware ⟨rfl, rfl, Nat.le_of_ble_eq_true rfl, Nat.le_of_ble_eq_true rfl⟩ sh_1 rfl rfl rfl rfl (Nat.le_of_ble_eq_true rfl) c8) (fun h4 hw => ?_)
          have w := w h4 hw
          refine fv_aload_n (ft_d o_FT_setCapacity 33 rfl) rfl rfl ?_
          refine fv_iconst (ft_d o_FT_setCapacity 34 rfl) rfl rfl ?_
          obtain ⟨R9, c10, w⟩ := w
          refine fv_callv (st := []) rfl rfl (ft_mm (pre := [.inl 2, .inr (.inr 0)]) rfl) (ft_rnV (K' := k_FT_unsettle) (As := [.inl 2]) (ft_d o_FT_setCapacity 35 rfl) ml_FT_119 li_FT_unsettle.1 li_FT_unsettle.2 lw_FT_unsettle ⟨rfl, rfl, Nat.le_of_ble_eq_true rfl, Nat.le_of_ble_eq_true rfl⟩ sh_0 rfl rfl rfl rfl (Nat.le_of_ble_eq_true rfl) c10) (fun h5 hw => ?_)
          have w := w h5 hw
          refine fv_iconst (ft_d o_FT_setCapacity 36 rfl) rfl rfl ?_
          exact fv_zreturn (ft_d o_FT_setCapacity 37 rfl) rfl (Or.inr rfl) w
      · have w := w.2 c
        refine fv_iconst (ft_d o_FT_setCapacity 11 rfl) rfl rfl ?_
        exact fv_zreturn (ft_d o_FT_setCapacity 12 rfl) rfl (Or.inl rfl) w
set_option maxRecDepth 20000 in
theorem b_FT_routes_0  {h : ftH} {R : Option ftV → ftH → Prop} 
    (w : R (some (.inl (h 2 2))) h) : ft_V k_FT_routes 0 [some (.inr (.inr 0))] [] h R := by
  refine fv_aload_n (ft_d o_FT_routes 0 rfl) rfl rfl ?_
  refine fv_getR (b := 1) (ft_d o_FT_routes 1 rfl) rfl fl_FT_12 sh_0 rfl ly_0_0 ?_
  refine fv_getR (b := 2) (ft_d o_FT_routes 2 rfl) rfl fl_FT_122 sh_1 rfl ly_1_1 ?_
  refine fv_getI (ft_d o_FT_routes 3 rfl) rfl fl_FT_125 sh_2 rfl ?_
  exact fv_ireturn (ft_d o_FT_routes 4 rfl) rfl w
set_option maxRecDepth 20000 in
theorem b_FT_route_0 {x1 : Int} {x2 : Int} {h : ftH} {R : Option ftV → ftH → Prop} 
    (w : ((x1 < 0 → R (some (.inr (.inl ((-1))))) h) ∧ (¬ (x1 < 0) → ((x2 < 0 → R (some (.inr (.inl ((-1))))) h) ∧ (¬ (x2 < 0) → ((x2 ≤ 4 → ((x1 < h 2 2 → ((3 ≤ x2 → (∃ R1 : Option ftV → ftH → Prop, ft_C k_FT_settle [.inr (.inr 0), .inl 1] h R1 ∧ ∀ h1 : ftH, R1 none h1 → ((¬ (x2 = 3) → ((0 ≤ x1 ∧ x1 < 60) ∧ R (some (.inr (.inl (h1 119 x1.toNat)))) h1)) ∧ (x2 = 3 → ((0 ≤ x1 ∧ x1 < 60) ∧ R (some (.inr (.inl ((if (h1 117 x1.toNat) < 0 then (-2) else (h1 117 x1.toNat)))))) h1))))) ∧ (¬ (3 ≤ x2) → (((0 ≤ x1 ∧ x1 < ft_ln (2 + 1)) ∧ 0 ≤ h (2 + 1) x1.toNat) ∧ R (some (.inr (.inl ((if x2 = 0 then h (2 + 1) x1.toNat / 64 else if x2 = 1 then h (2 + 1) x1.toNat % 64 else h (2 + 2) x1.toNat))))) h)))) ∧ (¬ (x1 < h 2 2) → R (some (.inr (.inl ((-2))))) h))) ∧ (¬ (x2 ≤ 4) → R (some (.inr (.inl ((-1))))) h))))))) : ft_V k_FT_route 0 [some (.inr (.inr 0)), some (.inl x1), some (.inl x2)] [] h R := by
  refine fv_iload_n (ft_d o_FT_route 0 rfl) rfl rfl ?_
  refine fv_if_lt (tgt := 13) (ft_d o_FT_route 1 rfl) rfl rfl (fun c => ?_) (fun c => ?_)
  · have w := w.1 c
    refine fv_ldc2 (v := (-1)) (z := (-1)) (ft_d o_FT_route 7 rfl) rfl (ft_gt 624 (by decide +kernel) rfl) rfl ?_
    exact fv_lreturn (ft_d o_FT_route 8 rfl) rfl w
  · have w := w.2 c
    refine fv_iload_n (ft_d o_FT_route 2 rfl) rfl rfl ?_
    refine fv_if_lt (tgt := 13) (ft_d o_FT_route 3 rfl) rfl rfl (fun c => ?_) (fun c => ?_)
    · have w := w.1 c
      refine fv_ldc2 (v := (-1)) (z := (-1)) (ft_d o_FT_route 7 rfl) rfl (ft_gt 624 (by decide +kernel) rfl) rfl ?_
      exact fv_lreturn (ft_d o_FT_route 8 rfl) rfl w
    · have w := w.2 c
      refine fv_iload_n (ft_d o_FT_route 4 rfl) rfl rfl ?_
      refine fv_iconst (ft_d o_FT_route 5 rfl) rfl rfl ?_
      refine fv_icmp_le (tgt := 17) (ft_d o_FT_route 6 rfl) rfl rfl (fun c => ?_) (fun c => ?_)
      · have w := w.1 c
        refine fv_iload_n (ft_d o_FT_route 9 rfl) rfl rfl ?_
        refine fv_aload_n (ft_d o_FT_route 10 rfl) rfl rfl ?_
        refine fv_getR (b := 1) (ft_d o_FT_route 11 rfl) rfl fl_FT_12 sh_0 rfl ly_0_0 ?_
        refine fv_getR (b := 2) (ft_d o_FT_route 12 rfl) rfl fl_FT_122 sh_1 rfl ly_1_1 ?_
        refine fv_getI (ft_d o_FT_route 13 rfl) rfl fl_FT_125 sh_2 rfl ?_
        refine fv_icmp_lt (tgt := 35) (ft_d o_FT_route 14 rfl) rfl rfl (fun c => ?_) (fun c => ?_)
        · have w := w.1 c
          refine fv_iload_n (ft_d o_FT_route 17 rfl) rfl rfl ?_
          refine fv_iconst (ft_d o_FT_route 18 rfl) rfl rfl ?_
          refine fv_icmp_ge (tgt := 53) (ft_d o_FT_route 19 rfl) rfl rfl (fun c => ?_) (fun c => ?_)
          · have w := w.1 c
            refine fv_aload_n (ft_d o_FT_route 27 rfl) rfl rfl ?_
            refine fv_iconst (ft_d o_FT_route 28 rfl) rfl rfl ?_
            obtain ⟨R1, c2, w⟩ := w
            refine fv_callv (st := []) rfl rfl (ft_mm (pre := [.inl 1, .inr (.inr 0)]) rfl) (ft_rnV (K' := k_FT_settle) (As := [.inl 1]) (ft_d o_FT_route 29 rfl) ml_FT_150 li_FT_settle.1 li_FT_settle.2 lw_FT_settle ⟨rfl, rfl, Nat.le_of_ble_eq_true rfl, Nat.le_of_ble_eq_true rfl⟩ sh_0 rfl rfl rfl rfl (Nat.le_of_ble_eq_true rfl) c2) (fun h1 hw => ?_)
            have w := w h1 hw
            refine fv_iload_n (ft_d o_FT_route 30 rfl) rfl rfl ?_
            refine fv_iconst (ft_d o_FT_route 31 rfl) rfl rfl ?_
            refine fv_icmp_ne (tgt := 79) (ft_d o_FT_route 32 rfl) rfl rfl (fun c => ?_) (fun c => ?_)
            · have w := w.1 c
              refine fv_aload_n (ft_d o_FT_route 41 rfl) rfl rfl ?_
              refine fv_getR (b := 115) (ft_d o_FT_route 42 rfl) rfl fl_FT_45 sh_0 rfl ly_0_6 ?_
              refine fv_getR (b := 119) (ft_d o_FT_route 43 rfl) rfl fl_FT_161 sh_115 rfl ly_115_2 ?_
              refine fv_iload_n (ft_d o_FT_route 44 rfl) rfl rfl ?_
              refine fv_lald (ft_d o_FT_route 45 rfl) rfl sh_119 w.1 ?_
              have w := w.2
              exact fv_lreturn (ft_d o_FT_route 46 rfl) rfl w
            · have w := w.2 c
              refine fv_aload_n (ft_d o_FT_route 33 rfl) rfl rfl ?_
              refine fv_getR (b := 115) (ft_d o_FT_route 34 rfl) rfl fl_FT_45 sh_0 rfl ly_0_6 ?_
              refine fv_getR (b := 117) (ft_d o_FT_route 35 rfl) rfl fl_FT_153 sh_115 rfl ly_115_0 ?_
              refine fv_iload_n (ft_d o_FT_route 36 rfl) rfl rfl ?_
              refine fv_iald (ft_d o_FT_route 37 rfl) rfl sh_117 w.1 ?_
              have w := w.2
              refine fv_callif (st := []) (z := (if (h1 117 x1.toNat) < 0 then (-2) else (h1 117 x1.toNat))) (Or.inl rfl) rfl (ft_mm (pre := [.inl (h1 117 x1.toNat)]) rfl) (ft_rnS (K' := k_FT_numberOrNotFound) (As := [.inl (h1 117 x1.toNat)]) (ft_d o_FT_route 38 rfl) ml_FT_157 lz_FT_numberOrNotFound rfl lw_FT_numberOrNotFound ⟨rfl, rfl, Nat.le_of_ble_eq_true rfl, Nat.le_of_ble_eq_true rfl⟩ rfl rfl (Nat.le_of_ble_eq_true rfl) (c_FT_numberOrNotFound)) ?_
              refine fv_i2l (ft_d o_FT_route 39 rfl) rfl ?_
              refine fv_goto (pc' := 88) (ft_d o_FT_route 40 rfl) rfl ?_
              exact fv_lreturn (ft_d o_FT_route 46 rfl) rfl w
          · have w := w.2 c
            refine fv_aload_n (ft_d o_FT_route 20 rfl) rfl rfl ?_
            refine fv_getR (b := 1) (ft_d o_FT_route 21 rfl) rfl fl_FT_12 sh_0 rfl ly_0_0 ?_
            refine fv_getR (b := 2) (ft_d o_FT_route 22 rfl) rfl fl_FT_122 sh_1 rfl ly_1_1 ?_
            refine fv_iload_n (ft_d o_FT_route 23 rfl) rfl rfl ?_
            refine fv_iload_n (ft_d o_FT_route 24 rfl) rfl rfl ?_
            refine fv_calllf (st := []) (z := (if x2 = 0 then h (2 + 1) x1.toNat / 64 else if x2 = 1 then h (2 + 1) x1.toNat % 64 else h (2 + 2) x1.toNat)) rfl rfl (ft_mm (pre := [.inl x2, .inl x1, .inr (.inr 2)]) rfl) (ft_rnV (K' := k_PS_tell) (As := [.inl x1, .inl x2]) (ft_d o_FT_route 25 rfl) ml_FT_146 li_PS_tell.1 li_PS_tell.2 lw_PS_tell ⟨rfl, rfl, Nat.le_of_ble_eq_true rfl, Nat.le_of_ble_eq_true rfl⟩ sh_2 rfl rfl rfl rfl (Nat.le_of_ble_eq_true rfl) (c_PS_tell sh_2 w.1)) ?_
            have w := w.2
            exact fv_lreturn (ft_d o_FT_route 26 rfl) rfl w
        · have w := w.2 c
          refine fv_ldc2 (v := (-2)) (z := (-2)) (ft_d o_FT_route 15 rfl) rfl (ft_gt 625 (by decide +kernel) rfl) rfl ?_
          exact fv_lreturn (ft_d o_FT_route 16 rfl) rfl w
      · have w := w.2 c
        refine fv_ldc2 (v := (-1)) (z := (-1)) (ft_d o_FT_route 7 rfl) rfl (ft_gt 624 (by decide +kernel) rfl) rfl ?_
        exact fv_lreturn (ft_d o_FT_route 8 rfl) rfl w
set_option maxRecDepth 20000 in
theorem b_FT_addRoute_0 {x1 : Int} {x2 : Int} {x3 : Int} {h : ftH} {R : Option ftV → ftH → Prop} 
    (w : ((¬ ((0 ≤ x2 ∧ x2 ≤ 32) ∧ pUn x1 % pSz x2 = 0) → R (some (.inl ((-1)))) h) ∧ ((0 ≤ x2 ∧ x2 ≤ 32) ∧ pUn x1 % pSz x2 = 0 → ((x3 < 0 → R (some (.inl ((-1)))) h) ∧ (¬ (x3 < 0) → ((x3 ≤ 15 → (((0 ≤ (pUn x1) ∧ (pUn x1) < 4294967296) ∧ (0 ≤ x2 ∧ x2 ≤ 32)) ∧ (∀ n5 : Int, n5 = 64 * (pUn x1) + x2 → (∃ R6 : Option ftV → ftH → Prop, ft_C k_PS_indexOf [.inr (.inr 2), .inr (.inl n5)] h R6 ∧ ∀ (z8 : Int) (h1 : ftH), ft_in z8 → R6 (some (.inl z8)) h1 → ((z8 < 0 → ((0 ≤ z8 → (∃ R9 : Option ftV → ftH → Prop, ft_C k_Hi_save [.inr (.inr 23), .inr (.inr 1)] h1 R9 ∧ ∀ h2 : ftH, R9 none h2 → (∃ R11 : Option ftV → ftH → Prop, ft_C k_PS_put [.inr (.inr 2), .inr (.inl n5), .inl x3] h2 R11 ∧ ∀ h3 : ftH, R11 none h3 → (∃ R13 : Option ftV → ftH → Prop, ft_C k_FT_unsettle [.inr (.inr 0), .inl 0] h3 R13 ∧ ∀ h4 : ftH, R13 none h4 → (∃ R15 : Option ftV → ftH → Prop, ft_C k_St_routeChanged [.inr (.inr 1), .inr (.inl n5)] h4 R15 ∧ ∀ (z17 : Int) (h5 : ftH), ft_in z17 → R15 (some (.inl z17)) h5 → R (some (.inl z17)) h5))))) ∧ (¬ (0 ≤ z8) → ((h1 2 2 < 60 → (∃ R18 : Option ftV → ftH → Prop, ft_C k_Hi_save [.inr (.inr 23), .inr (.inr 1)] h1 R18 ∧ ∀ h6 : ftH, R18 none h6 → (∃ R20 : Option ftV → ftH → Prop, ft_C k_PS_put [.inr (.inr 2), .inr (.inl n5), .inl x3] h6 R20 ∧ ∀ h7 : ftH, R20 none h7 → (∃ R22 : Option ftV → ftH → Prop, ft_C k_FT_unsettle [.inr (.inr 0), .inl 0] h7 R22 ∧ ∀ h8 : ftH, R22 none h8 → (∃ R24 : Option ftV → ftH → Prop, ft_C k_St_routeChanged [.inr (.inr 1), .inr (.inl n5)] h8 R24 ∧ ∀ (z26 : Int) (h9 : ftH), ft_in z26 → R24 (some (.inl z26)) h9 → R (some (.inl z26)) h9))))) ∧ (¬ (h1 2 2 < 60) → R (some (.inl ((-3)))) h1))))) ∧ (¬ (z8 < 0) → ((0 ≤ z8 ∧ z8 < 60) ∧ ((¬ (h1 4 z8.toNat = x3) → ((0 ≤ z8 → (∃ R27 : Option ftV → ftH → Prop, ft_C k_Hi_save [.inr (.inr 23), .inr (.inr 1)] h1 R27 ∧ ∀ h10 : ftH, R27 none h10 → (∃ R29 : Option ftV → ftH → Prop, ft_C k_PS_put [.inr (.inr 2), .inr (.inl n5), .inl x3] h10 R29 ∧ ∀ h11 : ftH, R29 none h11 → (∃ R31 : Option ftV → ftH → Prop, ft_C k_FT_unsettle [.inr (.inr 0), .inl 0] h11 R31 ∧ ∀ h12 : ftH, R31 none h12 → (∃ R33 : Option ftV → ftH → Prop, ft_C k_St_routeChanged [.inr (.inr 1), .inr (.inl n5)] h12 R33 ∧ ∀ (z35 : Int) (h13 : ftH), ft_in z35 → R33 (some (.inl z35)) h13 → R (some (.inl z35)) h13))))) ∧ (¬ (0 ≤ z8) → ((h1 2 2 < 60 → (∃ R36 : Option ftV → ftH → Prop, ft_C k_Hi_save [.inr (.inr 23), .inr (.inr 1)] h1 R36 ∧ ∀ h14 : ftH, R36 none h14 → (∃ R38 : Option ftV → ftH → Prop, ft_C k_PS_put [.inr (.inr 2), .inr (.inl n5), .inl x3] h14 R38 ∧ ∀ h15 : ftH, R38 none h15 → (∃ R40 : Option ftV → ftH → Prop, ft_C k_FT_unsettle [.inr (.inr 0), .inl 0] h15 R40 ∧ ∀ h16 : ftH, R40 none h16 → (∃ R42 : Option ftV → ftH → Prop, ft_C k_St_routeChanged [.inr (.inr 1), .inr (.inl n5)] h16 R42 ∧ ∀ (z44 : Int) (h17 : ftH), ft_in z44 → R42 (some (.inl z44)) h17 → R (some (.inl z44)) h17))))) ∧ (¬ (h1 2 2 < 60) → R (some (.inl ((-3)))) h1))))) ∧ (h1 4 z8.toNat = x3 → R (some (.inl ((-2)))) h1))))))))) ∧ (¬ (x3 ≤ 15) → R (some (.inl ((-1)))) h))))))) : ft_V k_FT_addRoute 0 [some (.inr (.inr 0)), some (.inl x1), some (.inl x2), some (.inl x3), none, none, none] [] h R := by
  refine fv_iload_n (ft_d o_FT_addRoute 0 rfl) rfl rfl ?_
  refine fv_iload_n (ft_d o_FT_addRoute 1 rfl) rfl rfl ?_
  refine fv_callif (st := []) (z := (if (0 ≤ x2 ∧ x2 ≤ 32) ∧ pUn x1 % pSz x2 = 0 then 1 else 0)) (Or.inr rfl) rfl (ft_mm (pre := [.inl x2, .inl x1]) rfl) (ft_rnS (K' := k_FT_isPrefix) (As := [.inl x1, .inl x2]) (ft_d o_FT_addRoute 2 rfl) ml_FT_165 lz_FT_isPrefix rfl lw_FT_isPrefix ⟨rfl, rfl, Nat.le_of_ble_eq_true rfl, Nat.le_of_ble_eq_true rfl⟩ rfl rfl (Nat.le_of_ble_eq_true rfl) (c_FT_isPrefix)) ?_
  refine fv_if_eq (tgt := 18) (ft_d o_FT_addRoute 3 rfl) rfl rfl (fun c => ?_) (fun c => ?_)
  · have w := w.1 (ft_if0.mp c)
    refine fv_iconst (ft_d o_FT_addRoute 9 rfl) rfl rfl ?_
    exact fv_ireturn (ft_d o_FT_addRoute 10 rfl) rfl w
  · have w := w.2 (ft_if1.mp c)
    refine fv_iload_n (ft_d o_FT_addRoute 4 rfl) rfl rfl ?_
    refine fv_if_lt (tgt := 18) (ft_d o_FT_addRoute 5 rfl) rfl rfl (fun c => ?_) (fun c => ?_)
    · have w := w.1 c
      refine fv_iconst (ft_d o_FT_addRoute 9 rfl) rfl rfl ?_
      exact fv_ireturn (ft_d o_FT_addRoute 10 rfl) rfl w
    · have w := w.2 c
      refine fv_iload_n (ft_d o_FT_addRoute 6 rfl) rfl rfl ?_
      refine fv_bipush (ft_d o_FT_addRoute 7 rfl) rfl rfl ?_
      refine fv_icmp_le (tgt := 20) (ft_d o_FT_addRoute 8 rfl) rfl rfl (fun c => ?_) (fun c => ?_)
      · have w := w.1 c
        refine fv_iload_n (ft_d o_FT_addRoute 11 rfl) rfl rfl ?_
        refine fv_i2l (ft_d o_FT_addRoute 12 rfl) rfl ?_
        refine fv_ldc2 (v := 4294967295) (z := 4294967295) (ft_d o_FT_addRoute 13 rfl) rfl (ft_gt 778 (by decide +kernel) rfl) rfl ?_
        refine fv_land32 (ft_d o_FT_addRoute 14 rfl) rfl ?_
        refine fv_iload_n (ft_d o_FT_addRoute 15 rfl) rfl rfl ?_
        refine fv_calllf (st := []) (z := 64 * (pUn x1) + x2) rfl rfl (ft_mm (pre := [.inl x2, .inr (.inl (pUn x1))]) rfl) (ft_rnS (K' := k_FT_keyOf) (As := [.inr (.inl (pUn x1)), .inl x2]) (ft_d o_FT_addRoute 16 rfl) ml_FT_171 lz_FT_keyOf rfl lw_FT_keyOf ⟨rfl, rfl, Nat.le_of_ble_eq_true rfl, Nat.le_of_ble_eq_true rfl⟩ rfl rfl (Nat.le_of_ble_eq_true rfl) (c_FT_keyOf w.1)) ?_
        have w := w.2
        generalize en5 : 64 * (pUn x1) + x2 = n5
        have w := w n5 en5.symm
        refine fv_lstore (L' := [some (.inr (.inr 0)), some (.inl x1), some (.inl x2), some (.inl x3), some (.inr (.inl n5)), none, none]) (ft_d o_FT_addRoute 17 rfl) rfl (Nat.le_of_ble_eq_true rfl) rfl ?_
        refine fv_aload_n (ft_d o_FT_addRoute 18 rfl) rfl rfl ?_
        refine fv_getR (b := 1) (ft_d o_FT_addRoute 19 rfl) rfl fl_FT_12 sh_0 rfl ly_0_0 ?_
        refine fv_getR (b := 2) (ft_d o_FT_addRoute 20 rfl) rfl fl_FT_122 sh_1 rfl ly_1_1 ?_
        refine fv_lload (ft_d o_FT_addRoute 21 rfl) rfl rfl ?_
        obtain ⟨R6, c7, w⟩ := w
        refine fv_calli (st := []) (Or.inl rfl) rfl (ft_mm (pre := [.inr (.inl n5), .inr (.inr 2)]) rfl) (ft_rnV (K' := k_PS_indexOf) (As := [.inr (.inl n5)]) (ft_d o_FT_addRoute 22 rfl) ml_FT_175 li_PS_indexOf.1 li_PS_indexOf.2 lw_PS_indexOf ⟨rfl, rfl, Nat.le_of_ble_eq_true rfl, Nat.le_of_ble_eq_true rfl⟩ sh_2 rfl rfl rfl rfl (Nat.le_of_ble_eq_true rfl) c7) (fun z8 h1 hz hw => ?_)
        have w := w z8 h1 hz hw
        refine fv_istore (L' := [some (.inr (.inr 0)), some (.inl x1), some (.inl x2), some (.inl x3), some (.inr (.inl n5)), none, some (.inl z8)]) (ft_d o_FT_addRoute 23 rfl) rfl (Nat.le_of_ble_eq_true rfl) rfl ?_
        refine fv_iload (ft_d o_FT_addRoute 24 rfl) rfl rfl ?_
        refine fv_if_lt (tgt := 71) (ft_d o_FT_addRoute 25 rfl) rfl rfl (fun c => ?_) (fun c => ?_)
        · have w := w.1 c
          refine fv_iload (ft_d o_FT_addRoute 36 rfl) rfl rfl ?_
          refine fv_if_ge (tgt := 94) (ft_d o_FT_addRoute 37 rfl) rfl rfl (fun c => ?_) (fun c => ?_)
          · have w := w.1 c
            refine fv_aload_n (ft_d o_FT_addRoute 46 rfl) rfl rfl ?_
            refine fv_getR (b := 23) (ft_d o_FT_addRoute 47 rfl) rfl fl_FT_22 sh_0 rfl ly_0_2 ?_
            refine fv_aload_n (ft_d o_FT_addRoute 48 rfl) rfl rfl ?_
            refine fv_getR (b := 1) (ft_d o_FT_addRoute 49 rfl) rfl fl_FT_12 sh_0 rfl ly_0_0 ?_
            obtain ⟨R9, c10, w⟩ := w
            refine fv_callv (st := []) rfl rfl (ft_mm (pre := [.inr (.inr 1), .inr (.inr 23)]) rfl) (ft_rnV (K' := k_Hi_save) (As := [.inr (.inr 1)]) (ft_d o_FT_addRoute 50 rfl) ml_FT_129 li_Hi_save.1 li_Hi_save.2 lw_Hi_save ⟨rfl, rfl, Nat.le_of_ble_eq_true rfl, Nat.le_of_ble_eq_true rfl⟩ sh_23 rfl rfl rfl rfl (Nat.le_of_ble_eq_true rfl) c10) (fun h2 hw => ?_)
            have w := w h2 hw
            refine fv_aload_n (ft_d o_FT_addRoute 51 rfl) rfl rfl ?_
            refine fv_getR (b := 1) (ft_d o_FT_addRoute 52 rfl) rfl fl_FT_12 sh_0 rfl ly_0_0 ?_
            refine fv_getR (b := 2) (ft_d o_FT_addRoute 53 rfl) rfl fl_FT_122 sh_1 rfl ly_1_1 ?_
            refine fv_lload (ft_d o_FT_addRoute 54 rfl) rfl rfl ?_
            refine fv_iload_n (ft_d o_FT_addRoute 55 rfl) rfl rfl ?_
            obtain ⟨R11, c12, w⟩ := w
            refine fv_callv (st := []) rfl rfl (ft_mm (pre := [.inl x3, .inr (.inl n5), .inr (.inr 2)]) rfl) (ft_rnV (K' := k_PS_put) (As := [.inr (.inl n5), .inl x3]) (ft_d o_FT_addRoute 56 rfl) ml_FT_182 li_PS_put.1 li_PS_put.2 lw_PS_put ⟨rfl, rfl, Nat.le_of_ble_eq_true rfl, Nat.le_of_ble_eq_true rfl⟩ sh_2 rfl rfl rfl rfl (Nat.le_of_ble_eq_true rfl) c12) (fun h3 hw => ?_)
            have w := w h3 hw
            refine fv_aload_n (ft_d o_FT_addRoute 57 rfl) rfl rfl ?_
            refine fv_iconst (ft_d o_FT_addRoute 58 rfl) rfl rfl ?_
            obtain ⟨R13, c14, w⟩ := w
            refine fv_callv (st := []) rfl rfl (ft_mm (pre := [.inl 0, .inr (.inr 0)]) rfl) (ft_rnV (K' := k_FT_unsettle) (As := [.inl 0]) (ft_d o_FT_addRoute 59 rfl) ml_FT_119 li_FT_unsettle.1 li_FT_unsettle.2 lw_FT_unsettle ⟨rfl, rfl, Nat.le_of_ble_eq_true rfl, Nat.le_of_ble_eq_true rfl⟩ sh_0 rfl rfl rfl rfl (Nat.le_of_ble_eq_true rfl) c14) (fun h4 hw => ?_)
            have w := w h4 hw
            refine fv_aload_n (ft_d o_FT_addRoute 60 rfl) rfl rfl ?_
            refine fv_getR (b := 1) (ft_d o_FT_addRoute 61 rfl) rfl fl_FT_12 sh_0 rfl ly_0_0 ?_
            refine fv_lload (ft_d o_FT_addRoute 62 rfl) rfl rfl ?_
            obtain ⟨R15, c16, w⟩ := w
            refine fv_calli (st := []) (Or.inl rfl) rfl (ft_mm (pre := [.inr (.inl n5), .inr (.inr 1)]) rfl) (ft_rnV (K' := k_St_routeChanged) (As := [.inr (.inl n5)]) (ft_d o_FT_addRoute 63 rfl) ml_FT_186 li_St_routeChanged.1 li_St_routeChanged.2 lw_St_routeChanged ⟨rfl, rfl, Nat.le_of_ble_eq_true rfl, Nat.le_of_ble_eq_true rfl⟩ sh_1 rfl rfl rfl rfl (Nat.le_of_ble_eq_true rfl) c16) (fun z17 h5 hz hw => ?_)
            have w := w z17 h5 hz hw
            exact fv_ireturn (ft_d o_FT_addRoute 64 rfl) rfl w
          · have w := w.2 c
            refine fv_aload_n (ft_d o_FT_addRoute 38 rfl) rfl rfl ?_
            refine fv_getR (b := 1) (ft_d o_FT_addRoute 39 rfl) rfl fl_FT_12 sh_0 rfl ly_0_0 ?_
            refine fv_getR (b := 2) (ft_d o_FT_addRoute 40 rfl) rfl fl_FT_122 sh_1 rfl ly_1_1 ?_
            refine fv_getI (ft_d o_FT_addRoute 41 rfl) rfl fl_FT_125 sh_2 rfl ?_
            refine fv_bipush (ft_d o_FT_addRoute 42 rfl) rfl rfl ?_
            refine fv_icmp_lt (tgt := 94) (ft_d o_FT_addRoute 43 rfl) rfl rfl (fun c => ?_) (fun c => ?_)
            · have w := w.1 c
              refine fv_aload_n (ft_d o_FT_addRoute 46 rfl) rfl rfl ?_
              refine fv_getR (b := 23) (ft_d o_FT_addRoute 47 rfl) rfl fl_FT_22 sh_0 rfl ly_0_2 ?_
              refine fv_aload_n (ft_d o_FT_addRoute 48 rfl) rfl rfl ?_
              refine fv_getR (b := 1) (ft_d o_FT_addRoute 49 rfl) rfl fl_FT_12 sh_0 rfl ly_0_0 ?_
              obtain ⟨R18, c19, w⟩ := w
              refine fv_callv (st := []) rfl rfl (ft_mm (pre := [.inr (.inr 1), .inr (.inr 23)]) rfl) (ft_rnV (K' := k_Hi_save) (As := [.inr (.inr 1)]) (ft_d o_FT_addRoute 50 rfl) ml_FT_129 li_Hi_save.1 li_Hi_save.2 lw_Hi_save ⟨rfl, rfl, Nat.le_of_ble_eq_true rfl, Nat.le_of_ble_eq_true rfl⟩ sh_23 rfl rfl rfl rfl (Nat.le_of_ble_eq_true rfl) c19) (fun h6 hw => ?_)
              have w := w h6 hw
              refine fv_aload_n (ft_d o_FT_addRoute 51 rfl) rfl rfl ?_
              refine fv_getR (b := 1) (ft_d o_FT_addRoute 52 rfl) rfl fl_FT_12 sh_0 rfl ly_0_0 ?_
              refine fv_getR (b := 2) (ft_d o_FT_addRoute 53 rfl) rfl fl_FT_122 sh_1 rfl ly_1_1 ?_
              refine fv_lload (ft_d o_FT_addRoute 54 rfl) rfl rfl ?_
              refine fv_iload_n (ft_d o_FT_addRoute 55 rfl) rfl rfl ?_
              obtain ⟨R20, c21, w⟩ := w
              refine fv_callv (st := []) rfl rfl (ft_mm (pre := [.inl x3, .inr (.inl n5), .inr (.inr 2)]) rfl) (ft_rnV (K' := k_PS_put) (As := [.inr (.inl n5), .inl x3]) (ft_d o_FT_addRoute 56 rfl) ml_FT_182 li_PS_put.1 li_PS_put.2 lw_PS_put ⟨rfl, rfl, Nat.le_of_ble_eq_true rfl, Nat.le_of_ble_eq_true rfl⟩ sh_2 rfl rfl rfl rfl (Nat.le_of_ble_eq_true rfl) c21) (fun h7 hw => ?_)
              have w := w h7 hw
              refine fv_aload_n (ft_d o_FT_addRoute 57 rfl) rfl rfl ?_
              refine fv_iconst (ft_d o_FT_addRoute 58 rfl) rfl rfl ?_
              obtain ⟨R22, c23, w⟩ := w
              refine fv_callv (st := []) rfl rfl (ft_mm (pre := [.inl 0, .inr (.inr 0)]) rfl) (ft_rnV (K' := k_FT_unsettle) (As := [.inl 0]) (ft_d o_FT_addRoute 59 rfl) ml_FT_119 li_FT_unsettle.1 li_FT_unsettle.2 lw_FT_unsettle ⟨rfl, rfl, Nat.le_of_ble_eq_true rfl, Nat.le_of_ble_eq_true rfl⟩ sh_0 rfl rfl rfl rfl (Nat.le_of_ble_eq_true rfl) c23) (fun h8 hw => ?_)
              have w := w h8 hw
              refine fv_aload_n (ft_d o_FT_addRoute 60 rfl) rfl rfl ?_
              refine fv_getR (b := 1) (ft_d o_FT_addRoute 61 rfl) rfl fl_FT_12 sh_0 rfl ly_0_0 ?_
              refine fv_lload (ft_d o_FT_addRoute 62 rfl) rfl rfl ?_
              obtain ⟨R24, c25, w⟩ := w
              refine fv_calli (st := []) (Or.inl rfl) rfl (ft_mm (pre := [.inr (.inl n5), .inr (.inr 1)]) rfl) (ft_rnV (K' := k_St_routeChanged) (As := [.inr (.inl n5)]) (ft_d o_FT_addRoute 63 rfl) ml_FT_186 li_St_routeChanged.1 li_St_routeChanged.2 lw_St_routeChanged ⟨rfl, rfl, Nat.le_of_ble_eq_true rfl, Nat.le_of_ble_eq_true rfl⟩ sh_1 rfl rfl rfl rfl (Nat.le_of_ble_eq_true rfl) c25) (fun z26 h9 hz hw => ?_)
              have w := w z26 h9 hz hw
              exact fv_ireturn (ft_d o_FT_addRoute 64 rfl) rfl w
            · have w := w.2 c
              refine fv_bipush (ft_d o_FT_addRoute 44 rfl) rfl rfl ?_
              exact fv_ireturn (ft_d o_FT_addRoute 45 rfl) rfl w
        · have w := w.2 c
          refine fv_aload_n (ft_d o_FT_addRoute 26 rfl) rfl rfl ?_
          refine fv_getR (b := 1) (ft_d o_FT_addRoute 27 rfl) rfl fl_FT_12 sh_0 rfl ly_0_0 ?_
          refine fv_getR (b := 2) (ft_d o_FT_addRoute 28 rfl) rfl fl_FT_122 sh_1 rfl ly_1_1 ?_
          refine fv_getR (b := 4) (ft_d o_FT_addRoute 29 rfl) rfl fl_FT_179 sh_2 rfl ly_2_1 ?_
          refine fv_iload (ft_d o_FT_addRoute 30 rfl) rfl rfl ?_
          refine fv_iald (ft_d o_FT_addRoute 31 rfl) rfl sh_4 w.1 ?_
          have w := w.2
          refine fv_iload_n (ft_d o_FT_addRoute 32 rfl) rfl rfl ?_
          refine fv_icmp_ne (tgt := 71) (ft_d o_FT_addRoute 33 rfl) rfl rfl (fun c => ?_) (fun c => ?_)
          · have w := w.1 c
            refine fv_iload (ft_d o_FT_addRoute 36 rfl) rfl rfl ?_
            refine fv_if_ge (tgt := 94) (ft_d o_FT_addRoute 37 rfl) rfl rfl (fun c => ?_) (fun c => ?_)
            · have w := w.1 c
              refine fv_aload_n (ft_d o_FT_addRoute 46 rfl) rfl rfl ?_
              refine fv_getR (b := 23) (ft_d o_FT_addRoute 47 rfl) rfl fl_FT_22 sh_0 rfl ly_0_2 ?_
              refine fv_aload_n (ft_d o_FT_addRoute 48 rfl) rfl rfl ?_
              refine fv_getR (b := 1) (ft_d o_FT_addRoute 49 rfl) rfl fl_FT_12 sh_0 rfl ly_0_0 ?_
              obtain ⟨R27, c28, w⟩ := w
              refine fv_callv (st := []) rfl rfl (ft_mm (pre := [.inr (.inr 1), .inr (.inr 23)]) rfl) (ft_rnV (K' := k_Hi_save) (As := [.inr (.inr 1)]) (ft_d o_FT_addRoute 50 rfl) ml_FT_129 li_Hi_save.1 li_Hi_save.2 lw_Hi_save ⟨rfl, rfl, Nat.le_of_ble_eq_true rfl, Nat.le_of_ble_eq_true rfl⟩ sh_23 rfl rfl rfl rfl (Nat.le_of_ble_eq_true rfl) c28) (fun h10 hw => ?_)
              have w := w h10 hw
              refine fv_aload_n (ft_d o_FT_addRoute 51 rfl) rfl rfl ?_
              refine fv_getR (b := 1) (ft_d o_FT_addRoute 52 rfl) rfl fl_FT_12 sh_0 rfl ly_0_0 ?_
              refine fv_getR (b := 2) (ft_d o_FT_addRoute 53 rfl) rfl fl_FT_122 sh_1 rfl ly_1_1 ?_
              refine fv_lload (ft_d o_FT_addRoute 54 rfl) rfl rfl ?_
              refine fv_iload_n (ft_d o_FT_addRoute 55 rfl) rfl rfl ?_
              obtain ⟨R29, c30, w⟩ := w
              refine fv_callv (st := []) rfl rfl (ft_mm (pre := [.inl x3, .inr (.inl n5), .inr (.inr 2)]) rfl) (ft_rnV (K' := k_PS_put) (As := [.inr (.inl n5), .inl x3]) (ft_d o_FT_addRoute 56 rfl) ml_FT_182 li_PS_put.1 li_PS_put.2 lw_PS_put ⟨rfl, rfl, Nat.le_of_ble_eq_true rfl, Nat.le_of_ble_eq_true rfl⟩ sh_2 rfl rfl rfl rfl (Nat.le_of_ble_eq_true rfl) c30) (fun h11 hw => ?_)
              have w := w h11 hw
              refine fv_aload_n (ft_d o_FT_addRoute 57 rfl) rfl rfl ?_
              refine fv_iconst (ft_d o_FT_addRoute 58 rfl) rfl rfl ?_
              obtain ⟨R31, c32, w⟩ := w
              refine fv_callv (st := []) rfl rfl (ft_mm (pre := [.inl 0, .inr (.inr 0)]) rfl) (ft_rnV (K' := k_FT_unsettle) (As := [.inl 0]) (ft_d o_FT_addRoute 59 rfl) ml_FT_119 li_FT_unsettle.1 li_FT_unsettle.2 lw_FT_unsettle ⟨rfl, rfl, Nat.le_of_ble_eq_true rfl, Nat.le_of_ble_eq_true rfl⟩ sh_0 rfl rfl rfl rfl (Nat.le_of_ble_eq_true rfl) c32) (fun h12 hw => ?_)
              have w := w h12 hw
              refine fv_aload_n (ft_d o_FT_addRoute 60 rfl) rfl rfl ?_
              refine fv_getR (b := 1) (ft_d o_FT_addRoute 61 rfl) rfl fl_FT_12 sh_0 rfl ly_0_0 ?_
              refine fv_lload (ft_d o_FT_addRoute 62 rfl) rfl rfl ?_
              obtain ⟨R33, c34, w⟩ := w
              refine fv_calli (st := []) (Or.inl rfl) rfl (ft_mm (pre := [.inr (.inl n5), .inr (.inr 1)]) rfl) (ft_rnV (K' := k_St_routeChanged) (As := [.inr (.inl n5)]) (ft_d o_FT_addRoute 63 rfl) ml_FT_186 li_St_routeChanged.1 li_St_routeChanged.2 lw_St_routeChanged ⟨rfl, rfl, Nat.le_of_ble_eq_true rfl, Nat.le_of_ble_eq_true rfl⟩ sh_1 rfl rfl rfl rfl (Nat.le_of_ble_eq_true rfl) c34) (fun z35 h13 hz hw => ?_)
              have w := w z35 h13 hz hw
              exact fv_ireturn (ft_d o_FT_addRoute 64 rfl) rfl w
            · have w := w.2 c
              refine fv_aload_n (ft_d o_FT_addRoute 38 rfl) rfl rfl ?_
              refine fv_getR (b := 1) (ft_d o_FT_addRoute 39 rfl) rfl fl_FT_12 sh_0 rfl ly_0_0 ?_
              refine fv_getR (b := 2) (ft_d o_FT_addRoute 40 rfl) rfl fl_FT_122 sh_1 rfl ly_1_1 ?_
              refine fv_getI (ft_d o_FT_addRoute 41 rfl) rfl fl_FT_125 sh_2 rfl ?_
              refine fv_bipush (ft_d o_FT_addRoute 42 rfl) rfl rfl ?_
              refine fv_icmp_lt (tgt := 94) (ft_d o_FT_addRoute 43 rfl) rfl rfl (fun c => ?_) (fun c => ?_)
              · have w := w.1 c
                refine fv_aload_n (ft_d o_FT_addRoute 46 rfl) rfl rfl ?_
                refine fv_getR (b := 23) (ft_d o_FT_addRoute 47 rfl) rfl fl_FT_22 sh_0 rfl ly_0_2 ?_
                refine fv_aload_n (ft_d o_FT_addRoute 48 rfl) rfl rfl ?_
                refine fv_getR (b := 1) (ft_d o_FT_addRoute 49 rfl) rfl fl_FT_12 sh_0 rfl ly_0_0 ?_
                obtain ⟨R36, c37, w⟩ := w
                refine fv_callv (st := []) rfl rfl (ft_mm (pre := [.inr (.inr 1), .inr (.inr 23)]) rfl) (ft_rnV (K' := k_Hi_save) (As := [.inr (.inr 1)]) (ft_d o_FT_addRoute 50 rfl) ml_FT_129 li_Hi_save.1 li_Hi_save.2 lw_Hi_save ⟨rfl, rfl, Nat.le_of_ble_eq_true rfl, Nat.le_of_ble_eq_true rfl⟩ sh_23 rfl rfl rfl rfl (Nat.le_of_ble_eq_true rfl) c37) (fun h14 hw => ?_)
                have w := w h14 hw
                refine fv_aload_n (ft_d o_FT_addRoute 51 rfl) rfl rfl ?_
                refine fv_getR (b := 1) (ft_d o_FT_addRoute 52 rfl) rfl fl_FT_12 sh_0 rfl ly_0_0 ?_
                refine fv_getR (b := 2) (ft_d o_FT_addRoute 53 rfl) rfl fl_FT_122 sh_1 rfl ly_1_1 ?_
                refine fv_lload (ft_d o_FT_addRoute 54 rfl) rfl rfl ?_
                refine fv_iload_n (ft_d o_FT_addRoute 55 rfl) rfl rfl ?_
                obtain ⟨R38, c39, w⟩ := w
                refine fv_callv (st := []) rfl rfl (ft_mm (pre := [.inl x3, .inr (.inl n5), .inr (.inr 2)]) rfl) (ft_rnV (K' := k_PS_put) (As := [.inr (.inl n5), .inl x3]) (ft_d o_FT_addRoute 56 rfl) ml_FT_182 li_PS_put.1 li_PS_put.2 lw_PS_put ⟨rfl, rfl, Nat.le_of_ble_eq_true rfl, Nat.le_of_ble_eq_true rfl⟩ sh_2 rfl rfl rfl rfl (Nat.le_of_ble_eq_true rfl) c39) (fun h15 hw => ?_)
                have w := w h15 hw
                refine fv_aload_n (ft_d o_FT_addRoute 57 rfl) rfl rfl ?_
                refine fv_iconst (ft_d o_FT_addRoute 58 rfl) rfl rfl ?_
                obtain ⟨R40, c41, w⟩ := w
                refine fv_callv (st := []) rfl rfl (ft_mm (pre := [.inl 0, .inr (.inr 0)]) rfl) (ft_rnV (K' := k_FT_unsettle) (As := [.inl 0]) (ft_d o_FT_addRoute 59 rfl) ml_FT_119 li_FT_unsettle.1 li_FT_unsettle.2 lw_FT_unsettle ⟨rfl, rfl, Nat.le_of_ble_eq_true rfl, Nat.le_of_ble_eq_true rfl⟩ sh_0 rfl rfl rfl rfl (Nat.le_of_ble_eq_true rfl) c41) (fun h16 hw => ?_)
                have w := w h16 hw
                refine fv_aload_n (ft_d o_FT_addRoute 60 rfl) rfl rfl ?_
                refine fv_getR (b := 1) (ft_d o_FT_addRoute 61 rfl) rfl fl_FT_12 sh_0 rfl ly_0_0 ?_
                refine fv_lload (ft_d o_FT_addRoute 62 rfl) rfl rfl ?_
                obtain ⟨R42, c43, w⟩ := w
                refine fv_calli (st := []) (Or.inl rfl) rfl (ft_mm (pre := [.inr (.inl n5), .inr (.inr 1)]) rfl) (ft_rnV (K' := k_St_routeChanged) (As := [.inr (.inl n5)]) (ft_d o_FT_addRoute 63 rfl) ml_FT_186 li_St_routeChanged.1 li_St_routeChanged.2 lw_St_routeChanged ⟨rfl, rfl, Nat.le_of_ble_eq_true rfl, Nat.le_of_ble_eq_true rfl⟩ sh_1 rfl rfl rfl rfl (Nat.le_of_ble_eq_true rfl) c43) (fun z44 h17 hz hw => ?_)
                have w := w z44 h17 hz hw
                exact fv_ireturn (ft_d o_FT_addRoute 64 rfl) rfl w
              · have w := w.2 c
                refine fv_bipush (ft_d o_FT_addRoute 44 rfl) rfl rfl ?_
                exact fv_ireturn (ft_d o_FT_addRoute 45 rfl) rfl w
          · have w := w.2 c
            refine fv_bipush (ft_d o_FT_addRoute 34 rfl) rfl rfl ?_
            exact fv_ireturn (ft_d o_FT_addRoute 35 rfl) rfl w
      · have w := w.2 c
        refine fv_iconst (ft_d o_FT_addRoute 9 rfl) rfl rfl ?_
        exact fv_ireturn (ft_d o_FT_addRoute 10 rfl) rfl w
set_option maxRecDepth 20000 in
theorem b_FT_removeRoute_0 {x1 : Int} {x2 : Int} {h : ftH} {R : Option ftV → ftH → Prop} 
    (w : (((0 ≤ x2 ∧ x2 ≤ 32) ∧ pUn x1 % pSz x2 = 0 → (((0 ≤ (pUn x1) ∧ (pUn x1) < 4294967296) ∧ (0 ≤ x2 ∧ x2 ≤ 32)) ∧ (∀ n5 : Int, n5 = 64 * (pUn x1) + x2 → (∃ R6 : Option ftV → ftH → Prop, ft_C k_PS_indexOf [.inr (.inr 2), .inr (.inl n5)] h R6 ∧ ∀ (z8 : Int) (h1 : ftH), ft_in z8 → R6 (some (.inl z8)) h1 → ((0 ≤ z8 → (∃ R9 : Option ftV → ftH → Prop, ft_C k_Hi_save [.inr (.inr 23), .inr (.inr 1)] h1 R9 ∧ ∀ h2 : ftH, R9 none h2 → (∃ R11 : Option ftV → ftH → Prop, ft_C k_PS_removeAt [.inr (.inr 2), .inl z8] h2 R11 ∧ ∀ h3 : ftH, R11 none h3 → (∃ R13 : Option ftV → ftH → Prop, ft_C k_FT_unsettle [.inr (.inr 0), .inl 0] h3 R13 ∧ ∀ h4 : ftH, R13 none h4 → (∃ R15 : Option ftV → ftH → Prop, ft_C k_St_routeChanged [.inr (.inr 1), .inr (.inl n5)] h4 R15 ∧ ∀ (z17 : Int) (h5 : ftH), ft_in z17 → R15 (some (.inl z17)) h5 → R (some (.inl z17)) h5))))) ∧ (¬ (0 ≤ z8) → R (some (.inl ((-2)))) h1)))))) ∧ (¬ ((0 ≤ x2 ∧ x2 ≤ 32) ∧ pUn x1 % pSz x2 = 0) → R (some (.inl ((-1)))) h))) : ft_V k_FT_removeRoute 0 [some (.inr (.inr 0)), some (.inl x1), some (.inl x2), none, none, none] [] h R := by
  refine fv_iload_n (ft_d o_FT_removeRoute 0 rfl) rfl rfl ?_
  refine fv_iload_n (ft_d o_FT_removeRoute 1 rfl) rfl rfl ?_
  refine fv_callif (st := []) (z := (if (0 ≤ x2 ∧ x2 ≤ 32) ∧ pUn x1 % pSz x2 = 0 then 1 else 0)) (Or.inr rfl) rfl (ft_mm (pre := [.inl x2, .inl x1]) rfl) (ft_rnS (K' := k_FT_isPrefix) (As := [.inl x1, .inl x2]) (ft_d o_FT_removeRoute 2 rfl) ml_FT_165 lz_FT_isPrefix rfl lw_FT_isPrefix ⟨rfl, rfl, Nat.le_of_ble_eq_true rfl, Nat.le_of_ble_eq_true rfl⟩ rfl rfl (Nat.le_of_ble_eq_true rfl) (c_FT_isPrefix)) ?_
  refine fv_if_ne (tgt := 10) (ft_d o_FT_removeRoute 3 rfl) rfl rfl (fun c => ?_) (fun c => ?_)
  · have w := w.1 (ft_if1.mp c)
    refine fv_iload_n (ft_d o_FT_removeRoute 6 rfl) rfl rfl ?_
    refine fv_i2l (ft_d o_FT_removeRoute 7 rfl) rfl ?_
    refine fv_ldc2 (v := 4294967295) (z := 4294967295) (ft_d o_FT_removeRoute 8 rfl) rfl (ft_gt 778 (by decide +kernel) rfl) rfl ?_
    refine fv_land32 (ft_d o_FT_removeRoute 9 rfl) rfl ?_
    refine fv_iload_n (ft_d o_FT_removeRoute 10 rfl) rfl rfl ?_
    refine fv_calllf (st := []) (z := 64 * (pUn x1) + x2) rfl rfl (ft_mm (pre := [.inl x2, .inr (.inl (pUn x1))]) rfl) (ft_rnS (K' := k_FT_keyOf) (As := [.inr (.inl (pUn x1)), .inl x2]) (ft_d o_FT_removeRoute 11 rfl) ml_FT_171 lz_FT_keyOf rfl lw_FT_keyOf ⟨rfl, rfl, Nat.le_of_ble_eq_true rfl, Nat.le_of_ble_eq_true rfl⟩ rfl rfl (Nat.le_of_ble_eq_true rfl) (c_FT_keyOf w.1)) ?_
    have w := w.2
    generalize en5 : 64 * (pUn x1) + x2 = n5
    have w := w n5 en5.symm
    refine fv_lstore_n (L' := [some (.inr (.inr 0)), some (.inl x1), some (.inl x2), some (.inr (.inl n5)), none, none]) (ft_d o_FT_removeRoute 12 rfl) rfl (Nat.le_of_ble_eq_true rfl) rfl ?_
    refine fv_aload_n (ft_d o_FT_removeRoute 13 rfl) rfl rfl ?_
    refine fv_getR (b := 1) (ft_d o_FT_removeRoute 14 rfl) rfl fl_FT_12 sh_0 rfl ly_0_0 ?_
    refine fv_getR (b := 2) (ft_d o_FT_removeRoute 15 rfl) rfl fl_FT_122 sh_1 rfl ly_1_1 ?_
    refine fv_lload_n (ft_d o_FT_removeRoute 16 rfl) rfl rfl ?_
    obtain ⟨R6, c7, w⟩ := w
    refine fv_calli (st := []) (Or.inl rfl) rfl (ft_mm (pre := [.inr (.inl n5), .inr (.inr 2)]) rfl) (ft_rnV (K' := k_PS_indexOf) (As := [.inr (.inl n5)]) (ft_d o_FT_removeRoute 17 rfl) ml_FT_175 li_PS_indexOf.1 li_PS_indexOf.2 lw_PS_indexOf ⟨rfl, rfl, Nat.le_of_ble_eq_true rfl, Nat.le_of_ble_eq_true rfl⟩ sh_2 rfl rfl rfl rfl (Nat.le_of_ble_eq_true rfl) c7) (fun z8 h1 hz hw => ?_)
    have w := w z8 h1 hz hw
    refine fv_istore (L' := [some (.inr (.inr 0)), some (.inl x1), some (.inl x2), some (.inr (.inl n5)), none, some (.inl z8)]) (ft_d o_FT_removeRoute 18 rfl) rfl (Nat.le_of_ble_eq_true rfl) rfl ?_
    refine fv_iload (ft_d o_FT_removeRoute 19 rfl) rfl rfl ?_
    refine fv_if_ge (tgt := 42) (ft_d o_FT_removeRoute 20 rfl) rfl rfl (fun c => ?_) (fun c => ?_)
    · have w := w.1 c
      refine fv_aload_n (ft_d o_FT_removeRoute 23 rfl) rfl rfl ?_
      refine fv_getR (b := 23) (ft_d o_FT_removeRoute 24 rfl) rfl fl_FT_22 sh_0 rfl ly_0_2 ?_
      refine fv_aload_n (ft_d o_FT_removeRoute 25 rfl) rfl rfl ?_
      refine fv_getR (b := 1) (ft_d o_FT_removeRoute 26 rfl) rfl fl_FT_12 sh_0 rfl ly_0_0 ?_
      obtain ⟨R9, c10, w⟩ := w
      refine fv_callv (st := []) rfl rfl (ft_mm (pre := [.inr (.inr 1), .inr (.inr 23)]) rfl) (ft_rnV (K' := k_Hi_save) (As := [.inr (.inr 1)]) (ft_d o_FT_removeRoute 27 rfl) ml_FT_129 li_Hi_save.1 li_Hi_save.2 lw_Hi_save ⟨rfl, rfl, Nat.le_of_ble_eq_true rfl, Nat.le_of_ble_eq_true rfl⟩ sh_23 rfl rfl rfl rfl (Nat.le_of_ble_eq_true rfl) c10) (fun h2 hw => ?_)
      have w := w h2 hw
      refine fv_aload_n (ft_d o_FT_removeRoute 28 rfl) rfl rfl ?_
      refine fv_getR (b := 1) (ft_d o_FT_removeRoute 29 rfl) rfl fl_FT_12 sh_0 rfl ly_0_0 ?_
      refine fv_getR (b := 2) (ft_d o_FT_removeRoute 30 rfl) rfl fl_FT_122 sh_1 rfl ly_1_1 ?_
      refine fv_iload (ft_d o_FT_removeRoute 31 rfl) rfl rfl ?_
      obtain ⟨R11, c12, w⟩ := w
      refine fv_callv (st := []) rfl rfl (ft_mm (pre := [.inl z8, .inr (.inr 2)]) rfl) (ft_rnV (K' := k_PS_removeAt) (As := [.inl z8]) (ft_d o_FT_removeRoute 32 rfl) ml_FT_189 li_PS_removeAt.1 li_PS_removeAt.2 lw_PS_removeAt ⟨rfl, rfl, Nat.le_of_ble_eq_true rfl, Nat.le_of_ble_eq_true rfl⟩ sh_2 rfl rfl rfl rfl (Nat.le_of_ble_eq_true rfl) c12) (fun h3 hw => ?_)
      have w := w h3 hw
      refine fv_aload_n (ft_d o_FT_removeRoute 33 rfl) rfl rfl ?_
      refine fv_iconst (ft_d o_FT_removeRoute 34 rfl) rfl rfl ?_
      obtain ⟨R13, c14, w⟩ := w
      refine fv_callv (st := []) rfl rfl (ft_mm (pre := [.inl 0, .inr (.inr 0)]) rfl) (ft_rnV (K' := k_FT_unsettle) (As := [.inl 0]) (ft_d o_FT_removeRoute 35 rfl) ml_FT_119 li_FT_unsettle.1 li_FT_unsettle.2 lw_FT_unsettle ⟨rfl, rfl, Nat.le_of_ble_eq_true rfl, Nat.le_of_ble_eq_true rfl⟩ sh_0 rfl rfl rfl rfl (Nat.le_of_ble_eq_true rfl) c14) (fun h4 hw => ?_)
      have w := w h4 hw
      refine fv_aload_n (ft_d o_FT_removeRoute 36 rfl) rfl rfl ?_
      refine fv_getR (b := 1) (ft_d o_FT_removeRoute 37 rfl) rfl fl_FT_12 sh_0 rfl ly_0_0 ?_
      refine fv_lload_n (ft_d o_FT_removeRoute 38 rfl) rfl rfl ?_
      obtain ⟨R15, c16, w⟩ := w
      refine fv_calli (st := []) (Or.inl rfl) rfl (ft_mm (pre := [.inr (.inl n5), .inr (.inr 1)]) rfl) (ft_rnV (K' := k_St_routeChanged) (As := [.inr (.inl n5)]) (ft_d o_FT_removeRoute 39 rfl) ml_FT_186 li_St_routeChanged.1 li_St_routeChanged.2 lw_St_routeChanged ⟨rfl, rfl, Nat.le_of_ble_eq_true rfl, Nat.le_of_ble_eq_true rfl⟩ sh_1 rfl rfl rfl rfl (Nat.le_of_ble_eq_true rfl) c16) (fun z17 h5 hz hw => ?_)
      have w := w z17 h5 hz hw
      exact fv_ireturn (ft_d o_FT_removeRoute 40 rfl) rfl w
    · have w := w.2 c
      refine fv_bipush (ft_d o_FT_removeRoute 21 rfl) rfl rfl ?_
      exact fv_ireturn (ft_d o_FT_removeRoute 22 rfl) rfl w
  · have w := w.2 (ft_if0.mp c)
    refine fv_iconst (ft_d o_FT_removeRoute 4 rfl) rfl rfl ?_
    exact fv_ireturn (ft_d o_FT_removeRoute 5 rfl) rfl w
set_option maxRecDepth 20000 in
theorem b_FT_answer_0 {x1 : Int} {h : ftH} {R : Option ftV → ftH → Prop} 
    (w : (∃ R1 : Option ftV → ftH → Prop, ft_C k_FT_answerFor [.inr (.inr 0), .inr (.inl (pUn x1))] h R1 ∧ ∀ (z3 : Int) (h1 : ftH), ft_in z3 → R1 (some (.inl z3)) h1 → R (some (.inl z3)) h1)) : ft_V k_FT_answer 0 [some (.inr (.inr 0)), some (.inl x1)] [] h R := by
  refine fv_aload_n (ft_d o_FT_answer 0 rfl) rfl rfl ?_
  refine fv_iload_n (ft_d o_FT_answer 1 rfl) rfl rfl ?_
  refine fv_i2l (ft_d o_FT_answer 2 rfl) rfl ?_
  refine fv_ldc2 (v := 4294967295) (z := 4294967295) (ft_d o_FT_answer 3 rfl) rfl (ft_gt 778 (by decide +kernel) rfl) rfl ?_
  refine fv_land32 (ft_d o_FT_answer 4 rfl) rfl ?_
  obtain ⟨R1, c2, w⟩ := w
  refine fv_calli (st := []) (Or.inl rfl) rfl (ft_mm (pre := [.inr (.inl (pUn x1)), .inr (.inr 0)]) rfl) (ft_rnV (K' := k_FT_answerFor) (As := [.inr (.inl (pUn x1))]) (ft_d o_FT_answer 5 rfl) ml_FT_192 li_FT_answerFor.1 li_FT_answerFor.2 lw_FT_answerFor ⟨rfl, rfl, Nat.le_of_ble_eq_true rfl, Nat.le_of_ble_eq_true rfl⟩ sh_0 rfl rfl rfl rfl (Nat.le_of_ble_eq_true rfl) c2) (fun z3 h1 hz hw => ?_)
  have w := w z3 h1 hz hw
  exact fv_ireturn (ft_d o_FT_answer 6 rfl) rfl w
set_option maxRecDepth 20000 in
theorem b_FT_matching_0 {x1 : Int} {h : ftH} {R : Option ftV → ftH → Prop} 
    (w : (∃ R1 : Option ftV → ftH → Prop, ft_C k_PS_longest [.inr (.inr 2), .inr (.inl (pUn x1))] h R1 ∧ ∀ (z3 : Int) (h1 : ftH), ft_in z3 → R1 (some (.inl z3)) h1 → R (some (.inl ((if z3 < 0 then (-2) else z3)))) h1)) : ft_V k_FT_matching 0 [some (.inr (.inr 0)), some (.inl x1)] [] h R := by
  refine fv_aload_n (ft_d o_FT_matching 0 rfl) rfl rfl ?_
  refine fv_getR (b := 1) (ft_d o_FT_matching 1 rfl) rfl fl_FT_12 sh_0 rfl ly_0_0 ?_
  refine fv_getR (b := 2) (ft_d o_FT_matching 2 rfl) rfl fl_FT_122 sh_1 rfl ly_1_1 ?_
  refine fv_iload_n (ft_d o_FT_matching 3 rfl) rfl rfl ?_
  refine fv_i2l (ft_d o_FT_matching 4 rfl) rfl ?_
  refine fv_ldc2 (v := 4294967295) (z := 4294967295) (ft_d o_FT_matching 5 rfl) rfl (ft_gt 778 (by decide +kernel) rfl) rfl ?_
  refine fv_land32 (ft_d o_FT_matching 6 rfl) rfl ?_
  obtain ⟨R1, c2, w⟩ := w
  refine fv_calli (st := []) (Or.inl rfl) rfl (ft_mm (pre := [.inr (.inl (pUn x1)), .inr (.inr 2)]) rfl) (ft_rnV (K' := k_PS_longest) (As := [.inr (.inl (pUn x1))]) (ft_d o_FT_matching 7 rfl) ml_FT_195 li_PS_longest.1 li_PS_longest.2 lw_PS_longest ⟨rfl, rfl, Nat.le_of_ble_eq_true rfl, Nat.le_of_ble_eq_true rfl⟩ sh_2 rfl rfl rfl rfl (Nat.le_of_ble_eq_true rfl) c2) (fun z3 h1 hz hw => ?_)
  have w := w z3 h1 hz hw
  refine fv_callif (st := []) (z := (if z3 < 0 then (-2) else z3)) (Or.inl rfl) rfl (ft_mm (pre := [.inl z3]) rfl) (ft_rnS (K' := k_FT_numberOrNotFound) (As := [.inl z3]) (ft_d o_FT_matching 8 rfl) ml_FT_157 lz_FT_numberOrNotFound rfl lw_FT_numberOrNotFound ⟨rfl, rfl, Nat.le_of_ble_eq_true rfl, Nat.le_of_ble_eq_true rfl⟩ rfl rfl (Nat.le_of_ble_eq_true rfl) (c_FT_numberOrNotFound)) ?_
  exact fv_ireturn (ft_d o_FT_matching 9 rfl) rfl w
set_option maxRecDepth 20000 in
theorem b_FT_packet_0 {x1 : Int} {x2 : Int} {h : ftH} {R : Option ftV → ftH → Prop} 
    (w : ((x2 < 1 → R (some (.inl ((-1)))) h) ∧ (¬ (x2 < 1) → ((x2 ≤ 9999 → (∃ R1 : Option ftV → ftH → Prop, ft_C k_Hi_save [.inr (.inr 23), .inr (.inr 1)] h R1 ∧ ∀ h1 : ftH, R1 none h1 → (∀ n3 : Int, n3 = pUn x1 → (∃ R4 : Option ftV → ftH → Prop, ft_C k_PS_answersByHop [.inr (.inr 5), .inr (.inl n3)] h1 R4 ∧ ∀ (z6 : Int) (h2 : ftH), ft_in z6 → R4 (some (.inl z6)) h2 → (∃ R7 : Option ftV → ftH → Prop, ft_C k_TL_see [.inr (.inr 8), .inr (.inl n3), .inl x2] h2 R7 ∧ ∀ h3 : ftH, R7 none h3 → ((z6 = 0 → (∀ h4 : ftH, h4 = ft_hs h3 11 1 (ft_addL (h3 11 1) x2) → (∃ R9 : Option ftV → ftH → Prop, ft_C k_FT_unsettle [.inr (.inr 0), .inl 2] h4 R9 ∧ ∀ h5 : ftH, R9 none h5 → ((z6 = 0 → R (some (.inl 0)) h5) ∧ (¬ (z6 = 0) → R (some (.inl 1)) h5))))) ∧ (¬ (z6 = 0) → (∀ h6 : ftH, h6 = ft_hs h3 11 0 (ft_addL (h3 11 0) x2) → (∃ R11 : Option ftV → ftH → Prop, ft_C k_FT_unsettle [.inr (.inr 0), .inl 2] h6 R11 ∧ ∀ h7 : ftH, R11 none h7 → ((z6 = 0 → R (some (.inl 0)) h7) ∧ (¬ (z6 = 0) → R (some (.inl 1)) h7))))))))))) ∧ (¬ (x2 ≤ 9999) → R (some (.inl ((-1)))) h))))) : ft_V k_FT_packet 0 [some (.inr (.inr 0)), some (.inl x1), some (.inl x2), none, none, none] [] h R := by
  refine fv_iload_n (ft_d o_FT_packet 0 rfl) rfl rfl ?_
  refine fv_iconst (ft_d o_FT_packet 1 rfl) rfl rfl ?_
  refine fv_icmp_lt (tgt := 12) (ft_d o_FT_packet 2 rfl) rfl rfl (fun c => ?_) (fun c => ?_)
  · have w := w.1 c
    refine fv_iconst (ft_d o_FT_packet 6 rfl) rfl rfl ?_
    exact fv_ireturn (ft_d o_FT_packet 7 rfl) rfl w
  · have w := w.2 c
    refine fv_iload_n (ft_d o_FT_packet 3 rfl) rfl rfl ?_
    refine fv_sipush (ft_d o_FT_packet 4 rfl) rfl rfl ?_
    refine fv_icmp_le (tgt := 14) (ft_d o_FT_packet 5 rfl) rfl rfl (fun c => ?_) (fun c => ?_)
    · have w := w.1 c
      refine fv_aload_n (ft_d o_FT_packet 8 rfl) rfl rfl ?_
      refine fv_getR (b := 23) (ft_d o_FT_packet 9 rfl) rfl fl_FT_22 sh_0 rfl ly_0_2 ?_
      refine fv_aload_n (ft_d o_FT_packet 10 rfl) rfl rfl ?_
      refine fv_getR (b := 1) (ft_d o_FT_packet 11 rfl) rfl fl_FT_12 sh_0 rfl ly_0_0 ?_
      obtain ⟨R1, c2, w⟩ := w
      refine fv_callv (st := []) rfl rfl (ft_mm (pre := [.inr (.inr 1), .inr (.inr 23)]) rfl) (ft_rnV (K' := k_Hi_save) (As := [.inr (.inr 1)]) (ft_d o_FT_packet 12 rfl) ml_FT_129 li_Hi_save.1 li_Hi_save.2 lw_Hi_save ⟨rfl, rfl, Nat.le_of_ble_eq_true rfl, Nat.le_of_ble_eq_true rfl⟩ sh_23 rfl rfl rfl rfl (Nat.le_of_ble_eq_true rfl) c2) (fun h1 hw => ?_)
      have w := w h1 hw
      refine fv_iload_n (ft_d o_FT_packet 13 rfl) rfl rfl ?_
      refine fv_i2l (ft_d o_FT_packet 14 rfl) rfl ?_
      refine fv_ldc2 (v := 4294967295) (z := 4294967295) (ft_d o_FT_packet 15 rfl) rfl (ft_gt 778 (by decide +kernel) rfl) rfl ?_
      refine fv_land32 (ft_d o_FT_packet 16 rfl) rfl ?_
      generalize en3 : pUn x1 = n3
      have w := w n3 en3.symm
      refine fv_lstore_n (L' := [some (.inr (.inr 0)), some (.inl x1), some (.inl x2), some (.inr (.inl n3)), none, none]) (ft_d o_FT_packet 17 rfl) rfl (Nat.le_of_ble_eq_true rfl) rfl ?_
      refine fv_aload_n (ft_d o_FT_packet 18 rfl) rfl rfl ?_
      refine fv_getR (b := 1) (ft_d o_FT_packet 19 rfl) rfl fl_FT_12 sh_0 rfl ly_0_0 ?_
      refine fv_getR (b := 5) (ft_d o_FT_packet 20 rfl) rfl fl_FT_132 sh_1 rfl ly_1_2 ?_
      refine fv_lload_n (ft_d o_FT_packet 21 rfl) rfl rfl ?_
      obtain ⟨R4, c5, w⟩ := w
      refine fv_calli (st := []) (Or.inr rfl) rfl (ft_mm (pre := [.inr (.inl n3), .inr (.inr 5)]) rfl) (ft_rnV (K' := k_PS_answersByHop) (As := [.inr (.inl n3)]) (ft_d o_FT_packet 22 rfl) ml_FT_198 li_PS_answersByHop.1 li_PS_answersByHop.2 lw_PS_answersByHop ⟨rfl, rfl, Nat.le_of_ble_eq_true rfl, Nat.le_of_ble_eq_true rfl⟩ sh_5 rfl rfl rfl rfl (Nat.le_of_ble_eq_true rfl) c5) (fun z6 h2 hz hw => ?_)
      have w := w z6 h2 hz hw
      refine fv_istore (L' := [some (.inr (.inr 0)), some (.inl x1), some (.inl x2), some (.inr (.inl n3)), none, some (.inl z6)]) (ft_d o_FT_packet 23 rfl) rfl (Nat.le_of_ble_eq_true rfl) rfl ?_
      refine fv_aload_n (ft_d o_FT_packet 24 rfl) rfl rfl ?_
      refine fv_getR (b := 1) (ft_d o_FT_packet 25 rfl) rfl fl_FT_12 sh_0 rfl ly_0_0 ?_
      refine fv_getR (b := 8) (ft_d o_FT_packet 26 rfl) rfl fl_FT_202 sh_1 rfl ly_1_3 ?_
      refine fv_lload_n (ft_d o_FT_packet 27 rfl) rfl rfl ?_
      refine fv_iload_n (ft_d o_FT_packet 28 rfl) rfl rfl ?_
      obtain ⟨R7, c8, w⟩ := w
      refine fv_callv (st := []) rfl rfl (ft_mm (pre := [.inl x2, .inr (.inl n3), .inr (.inr 8)]) rfl) (ft_rnV (K' := k_TL_see) (As := [.inr (.inl n3), .inl x2]) (ft_d o_FT_packet 29 rfl) ml_FT_206 li_TL_see.1 li_TL_see.2 lw_TL_see ⟨rfl, rfl, Nat.le_of_ble_eq_true rfl, Nat.le_of_ble_eq_true rfl⟩ sh_8 rfl rfl rfl rfl (Nat.le_of_ble_eq_true rfl) c8) (fun h3 hw => ?_)
      have w := w h3 hw
      refine fv_aload_n (ft_d o_FT_packet 30 rfl) rfl rfl ?_
      refine fv_getR (b := 1) (ft_d o_FT_packet 31 rfl) rfl fl_FT_12 sh_0 rfl ly_0_0 ?_
      refine fv_getR (b := 11) (ft_d o_FT_packet 32 rfl) rfl fl_FT_211 sh_1 rfl ly_1_4 ?_
      refine fv_iload (ft_d o_FT_packet 33 rfl) rfl rfl ?_
      refine fv_if_eq (tgt := 73) (ft_d o_FT_packet 34 rfl) rfl rfl (fun c => ?_) (fun c => ?_)
      · have w := w.1 c
        refine fv_iconst (ft_d o_FT_packet 37 rfl) rfl rfl ?_
        refine fv_dup2 (ft_d o_FT_packet 38 rfl) rfl rfl rfl ?_
        refine fv_laldj (j := 1) (ft_d o_FT_packet 39 rfl) rfl sh_11 ⟨by decide, by decide⟩ rfl ?_
        refine fv_iload_n (ft_d o_FT_packet 40 rfl) rfl rfl ?_
        refine fv_i2l (ft_d o_FT_packet 41 rfl) rfl ?_
        refine fv_ladd (ft_d o_FT_packet 42 rfl) rfl ?_
        refine fv_lastj (j := 1) (ft_d o_FT_packet 43 rfl) rfl sh_11 ⟨by decide, by decide⟩ rfl ?_
        generalize eh4 : ft_hs h3 11 1 (ft_addL (h3 11 1) x2) = h4
        have w := w h4 eh4.symm
        refine fv_aload_n (ft_d o_FT_packet 44 rfl) rfl rfl ?_
        refine fv_iconst (ft_d o_FT_packet 45 rfl) rfl rfl ?_
        obtain ⟨R9, c10, w⟩ := w
        refine fv_callv (st := []) rfl rfl (ft_mm (pre := [.inl 2, .inr (.inr 0)]) rfl) (ft_rnV (K' := k_FT_unsettle) (As := [.inl 2]) (ft_d o_FT_packet 46 rfl) ml_FT_119 li_FT_unsettle.1 li_FT_unsettle.2 lw_FT_unsettle ⟨rfl, rfl, Nat.le_of_ble_eq_true rfl, Nat.le_of_ble_eq_true rfl⟩ sh_0 rfl rfl rfl rfl (Nat.le_of_ble_eq_true rfl) c10) (fun h5 hw => ?_)
        have w := w h5 hw
        refine fv_iload (ft_d o_FT_packet 47 rfl) rfl rfl ?_
        refine fv_if_eq (tgt := 94) (ft_d o_FT_packet 48 rfl) rfl rfl (fun c => ?_) (fun c => ?_)
        · have w := w.1 c
          refine fv_iconst (ft_d o_FT_packet 51 rfl) rfl rfl ?_
          exact fv_ireturn (ft_d o_FT_packet 52 rfl) rfl w
        · have w := w.2 c
          refine fv_iconst (ft_d o_FT_packet 49 rfl) rfl rfl ?_
          refine fv_goto (pc' := 95) (ft_d o_FT_packet 50 rfl) rfl ?_
          exact fv_ireturn (ft_d o_FT_packet 52 rfl) rfl w
      · have w := w.2 c
        refine fv_iconst (ft_d o_FT_packet 35 rfl) rfl rfl ?_
        refine fv_goto (pc' := 74) (ft_d o_FT_packet 36 rfl) rfl ?_
        refine fv_dup2 (ft_d o_FT_packet 38 rfl) rfl rfl rfl ?_
        refine fv_laldj (j := 0) (ft_d o_FT_packet 39 rfl) rfl sh_11 ⟨by decide, by decide⟩ rfl ?_
        refine fv_iload_n (ft_d o_FT_packet 40 rfl) rfl rfl ?_
        refine fv_i2l (ft_d o_FT_packet 41 rfl) rfl ?_
        refine fv_ladd (ft_d o_FT_packet 42 rfl) rfl ?_
        refine fv_lastj (j := 0) (ft_d o_FT_packet 43 rfl) rfl sh_11 ⟨by decide, by decide⟩ rfl ?_
        generalize eh6 : ft_hs h3 11 0 (ft_addL (h3 11 0) x2) = h6
        have w := w h6 eh6.symm
        refine fv_aload_n (ft_d o_FT_packet 44 rfl) rfl rfl ?_
        refine fv_iconst (ft_d o_FT_packet 45 rfl) rfl rfl ?_
        obtain ⟨R11, c12, w⟩ := w
        refine fv_callv (st := []) rfl rfl (ft_mm (pre := [.inl 2, .inr (.inr 0)]) rfl) (ft_rnV (K' := k_FT_unsettle) (As := [.inl 2]) (ft_d o_FT_packet 46 rfl) ml_FT_119 li_FT_unsettle.1 li_FT_unsettle.2 lw_FT_unsettle ⟨rfl, rfl, Nat.le_of_ble_eq_true rfl, Nat.le_of_ble_eq_true rfl⟩ sh_0 rfl rfl rfl rfl (Nat.le_of_ble_eq_true rfl) c12) (fun h7 hw => ?_)
        have w := w h7 hw
        refine fv_iload (ft_d o_FT_packet 47 rfl) rfl rfl ?_
        refine fv_if_eq (tgt := 94) (ft_d o_FT_packet 48 rfl) rfl rfl (fun c => ?_) (fun c => ?_)
        · have w := w.1 c
          refine fv_iconst (ft_d o_FT_packet 51 rfl) rfl rfl ?_
          exact fv_ireturn (ft_d o_FT_packet 52 rfl) rfl w
        · have w := w.2 c
          refine fv_iconst (ft_d o_FT_packet 49 rfl) rfl rfl ?_
          refine fv_goto (pc' := 95) (ft_d o_FT_packet 50 rfl) rfl ?_
          exact fv_ireturn (ft_d o_FT_packet 52 rfl) rfl w
    · have w := w.2 c
      refine fv_iconst (ft_d o_FT_packet 6 rfl) rfl rfl ?_
      exact fv_ireturn (ft_d o_FT_packet 7 rfl) rfl w
set_option maxRecDepth 20000 in
theorem b_FT_age_0  {h : ftH} {R : Option ftV → ftH → Prop} 
    (w : ((¬ (h 8 2 = 0) → (∃ R1 : Option ftV → ftH → Prop, ft_C k_Hi_save [.inr (.inr 23), .inr (.inr 1)] h R1 ∧ ∀ h1 : ftH, R1 none h1 → (∃ R3 : Option ftV → ftH → Prop, ft_C k_TL_halve [.inr (.inr 8)] h1 R3 ∧ ∀ (z5 : Int) (h2 : ftH), ft_in z5 → R3 (some (.inl z5)) h2 → (∃ R6 : Option ftV → ftH → Prop, ft_C k_FT_unsettle [.inr (.inr 0), .inl 2] h2 R6 ∧ ∀ h3 : ftH, R6 none h3 → R (some (.inl z5)) h3)))) ∧ (h 8 2 = 0 → R (some (.inl ((-2)))) h))) : ft_V k_FT_age 0 [some (.inr (.inr 0)), none] [] h R := by
  refine fv_aload_n (ft_d o_FT_age 0 rfl) rfl rfl ?_
  refine fv_getR (b := 1) (ft_d o_FT_age 1 rfl) rfl fl_FT_12 sh_0 rfl ly_0_0 ?_
  refine fv_getR (b := 8) (ft_d o_FT_age 2 rfl) rfl fl_FT_202 sh_1 rfl ly_1_3 ?_
  refine fv_getI (ft_d o_FT_age 3 rfl) rfl fl_FT_214 sh_8 rfl ?_
  refine fv_if_ne (tgt := 16) (ft_d o_FT_age 4 rfl) rfl rfl (fun c => ?_) (fun c => ?_)
  · have w := w.1 c
    refine fv_aload_n (ft_d o_FT_age 7 rfl) rfl rfl ?_
    refine fv_getR (b := 23) (ft_d o_FT_age 8 rfl) rfl fl_FT_22 sh_0 rfl ly_0_2 ?_
    refine fv_aload_n (ft_d o_FT_age 9 rfl) rfl rfl ?_
    refine fv_getR (b := 1) (ft_d o_FT_age 10 rfl) rfl fl_FT_12 sh_0 rfl ly_0_0 ?_
    obtain ⟨R1, c2, w⟩ := w
    refine fv_callv (st := []) rfl rfl (ft_mm (pre := [.inr (.inr 1), .inr (.inr 23)]) rfl) (ft_rnV (K' := k_Hi_save) (As := [.inr (.inr 1)]) (ft_d o_FT_age 11 rfl) ml_FT_129 li_Hi_save.1 li_Hi_save.2 lw_Hi_save ⟨rfl, rfl, Nat.le_of_ble_eq_true rfl, Nat.le_of_ble_eq_true rfl⟩ sh_23 rfl rfl rfl rfl (Nat.le_of_ble_eq_true rfl) c2) (fun h1 hw => ?_)
    have w := w h1 hw
    refine fv_aload_n (ft_d o_FT_age 12 rfl) rfl rfl ?_
    refine fv_getR (b := 1) (ft_d o_FT_age 13 rfl) rfl fl_FT_12 sh_0 rfl ly_0_0 ?_
    refine fv_getR (b := 8) (ft_d o_FT_age 14 rfl) rfl fl_FT_202 sh_1 rfl ly_1_3 ?_
    obtain ⟨R3, c4, w⟩ := w
    refine fv_calli (st := []) (Or.inl rfl) rfl (ft_mm (pre := [.inr (.inr 8)]) rfl) (ft_rnV (K' := k_TL_halve) (As := []) (ft_d o_FT_age 15 rfl) ml_FT_215 li_TL_halve.1 li_TL_halve.2 lw_TL_halve ⟨rfl, rfl, Nat.le_of_ble_eq_true rfl, Nat.le_of_ble_eq_true rfl⟩ sh_8 rfl rfl rfl rfl (Nat.le_of_ble_eq_true rfl) c4) (fun z5 h2 hz hw => ?_)
    have w := w z5 h2 hz hw
    refine fv_istore_n (L' := [some (.inr (.inr 0)), some (.inl z5)]) (ft_d o_FT_age 16 rfl) rfl (Nat.le_of_ble_eq_true rfl) rfl ?_
    refine fv_aload_n (ft_d o_FT_age 17 rfl) rfl rfl ?_
    refine fv_iconst (ft_d o_FT_age 18 rfl) rfl rfl ?_
    obtain ⟨R6, c7, w⟩ := w
    refine fv_callv (st := []) rfl rfl (ft_mm (pre := [.inl 2, .inr (.inr 0)]) rfl) (ft_rnV (K' := k_FT_unsettle) (As := [.inl 2]) (ft_d o_FT_age 19 rfl) ml_FT_119 li_FT_unsettle.1 li_FT_unsettle.2 lw_FT_unsettle ⟨rfl, rfl, Nat.le_of_ble_eq_true rfl, Nat.le_of_ble_eq_true rfl⟩ sh_0 rfl rfl rfl rfl (Nat.le_of_ble_eq_true rfl) c7) (fun h3 hw => ?_)
    have w := w h3 hw
    refine fv_iload_n (ft_d o_FT_age 20 rfl) rfl rfl ?_
    exact fv_ireturn (ft_d o_FT_age 21 rfl) rfl w
  · have w := w.2 c
    refine fv_bipush (ft_d o_FT_age 5 rfl) rfl rfl ?_
    exact fv_ireturn (ft_d o_FT_age 6 rfl) rfl w
set_option maxRecDepth 20000 in
theorem b_FT_logged_0  {h : ftH} {R : Option ftV → ftH → Prop} 
    (w : R (some (.inl (h 8 2))) h) : ft_V k_FT_logged 0 [some (.inr (.inr 0))] [] h R := by
  refine fv_aload_n (ft_d o_FT_logged 0 rfl) rfl rfl ?_
  refine fv_getR (b := 1) (ft_d o_FT_logged 1 rfl) rfl fl_FT_12 sh_0 rfl ly_0_0 ?_
  refine fv_getR (b := 8) (ft_d o_FT_logged 2 rfl) rfl fl_FT_202 sh_1 rfl ly_1_3 ?_
  refine fv_getI (ft_d o_FT_logged 3 rfl) rfl fl_FT_214 sh_8 rfl ?_
  exact fv_ireturn (ft_d o_FT_logged 4 rfl) rfl w
set_option maxRecDepth 20000 in
theorem b_FT_log_0 {x1 : Int} {x2 : Int} {h : ftH} {R : Option ftV → ftH → Prop} 
    (w : ((x1 < 0 → R (some (.inr (.inl ((-1))))) h) ∧ (¬ (x1 < 0) → ((x2 < 0 → R (some (.inr (.inl ((-1))))) h) ∧ (¬ (x2 < 0) → ((x2 ≤ 1 → ((x1 < h 8 2 → ((¬ (x2 = 0) → ((0 ≤ x1 ∧ x1 < 40) ∧ R (some (.inr (.inl (h 10 x1.toNat)))) h)) ∧ (x2 = 0 → ((0 ≤ x1 ∧ x1 < 40) ∧ R (some (.inr (.inl (h 9 x1.toNat)))) h)))) ∧ (¬ (x1 < h 8 2) → R (some (.inr (.inl ((-2))))) h))) ∧ (¬ (x2 ≤ 1) → R (some (.inr (.inl ((-1))))) h))))))) : ft_V k_FT_log 0 [some (.inr (.inr 0)), some (.inl x1), some (.inl x2)] [] h R := by
  refine fv_iload_n (ft_d o_FT_log 0 rfl) rfl rfl ?_
  refine fv_if_lt (tgt := 13) (ft_d o_FT_log 1 rfl) rfl rfl (fun c => ?_) (fun c => ?_)
  · have w := w.1 c
    refine fv_ldc2 (v := (-1)) (z := (-1)) (ft_d o_FT_log 7 rfl) rfl (ft_gt 624 (by decide +kernel) rfl) rfl ?_
    exact fv_lreturn (ft_d o_FT_log 8 rfl) rfl w
  · have w := w.2 c
    refine fv_iload_n (ft_d o_FT_log 2 rfl) rfl rfl ?_
    refine fv_if_lt (tgt := 13) (ft_d o_FT_log 3 rfl) rfl rfl (fun c => ?_) (fun c => ?_)
    · have w := w.1 c
      refine fv_ldc2 (v := (-1)) (z := (-1)) (ft_d o_FT_log 7 rfl) rfl (ft_gt 624 (by decide +kernel) rfl) rfl ?_
      exact fv_lreturn (ft_d o_FT_log 8 rfl) rfl w
    · have w := w.2 c
      refine fv_iload_n (ft_d o_FT_log 4 rfl) rfl rfl ?_
      refine fv_iconst (ft_d o_FT_log 5 rfl) rfl rfl ?_
      refine fv_icmp_le (tgt := 17) (ft_d o_FT_log 6 rfl) rfl rfl (fun c => ?_) (fun c => ?_)
      · have w := w.1 c
        refine fv_iload_n (ft_d o_FT_log 9 rfl) rfl rfl ?_
        refine fv_aload_n (ft_d o_FT_log 10 rfl) rfl rfl ?_
        refine fv_getR (b := 1) (ft_d o_FT_log 11 rfl) rfl fl_FT_12 sh_0 rfl ly_0_0 ?_
        refine fv_getR (b := 8) (ft_d o_FT_log 12 rfl) rfl fl_FT_202 sh_1 rfl ly_1_3 ?_
        refine fv_getI (ft_d o_FT_log 13 rfl) rfl fl_FT_214 sh_8 rfl ?_
        refine fv_icmp_lt (tgt := 35) (ft_d o_FT_log 14 rfl) rfl rfl (fun c => ?_) (fun c => ?_)
        · have w := w.1 c
          refine fv_iload_n (ft_d o_FT_log 17 rfl) rfl rfl ?_
          refine fv_if_ne (tgt := 54) (ft_d o_FT_log 18 rfl) rfl rfl (fun c => ?_) (fun c => ?_)
          · have w := w.1 c
            refine fv_aload_n (ft_d o_FT_log 26 rfl) rfl rfl ?_
            refine fv_getR (b := 1) (ft_d o_FT_log 27 rfl) rfl fl_FT_12 sh_0 rfl ly_0_0 ?_
            refine fv_getR (b := 8) (ft_d o_FT_log 28 rfl) rfl fl_FT_202 sh_1 rfl ly_1_3 ?_
            refine fv_getR (b := 10) (ft_d o_FT_log 29 rfl) rfl fl_FT_221 sh_8 rfl ly_8_1 ?_
            refine fv_iload_n (ft_d o_FT_log 30 rfl) rfl rfl ?_
            refine fv_iald (ft_d o_FT_log 31 rfl) rfl sh_10 w.1 ?_
            have w := w.2
            refine fv_i2l (ft_d o_FT_log 32 rfl) rfl ?_
            exact fv_lreturn (ft_d o_FT_log 33 rfl) rfl w
          · have w := w.2 c
            refine fv_aload_n (ft_d o_FT_log 19 rfl) rfl rfl ?_
            refine fv_getR (b := 1) (ft_d o_FT_log 20 rfl) rfl fl_FT_12 sh_0 rfl ly_0_0 ?_
            refine fv_getR (b := 8) (ft_d o_FT_log 21 rfl) rfl fl_FT_202 sh_1 rfl ly_1_3 ?_
            refine fv_getR (b := 9) (ft_d o_FT_log 22 rfl) rfl fl_FT_218 sh_8 rfl ly_8_0 ?_
            refine fv_iload_n (ft_d o_FT_log 23 rfl) rfl rfl ?_
            refine fv_lald (ft_d o_FT_log 24 rfl) rfl sh_9 w.1 ?_
            have w := w.2
            refine fv_goto (pc' := 67) (ft_d o_FT_log 25 rfl) rfl ?_
            exact fv_lreturn (ft_d o_FT_log 33 rfl) rfl w
        · have w := w.2 c
          refine fv_ldc2 (v := (-2)) (z := (-2)) (ft_d o_FT_log 15 rfl) rfl (ft_gt 625 (by decide +kernel) rfl) rfl ?_
          exact fv_lreturn (ft_d o_FT_log 16 rfl) rfl w
      · have w := w.2 c
        refine fv_ldc2 (v := (-1)) (z := (-1)) (ft_d o_FT_log 7 rfl) rfl (ft_gt 624 (by decide +kernel) rfl) rfl ?_
        exact fv_lreturn (ft_d o_FT_log 8 rfl) rfl w
set_option maxRecDepth 20000 in
theorem b_FT_compressed_0  {h : ftH} {R : Option ftV → ftH → Prop} 
    (w : (∃ R1 : Option ftV → ftH → Prop, ft_C k_FT_settle [.inr (.inr 0), .inl 2] h R1 ∧ ∀ h1 : ftH, R1 none h1 → R (some (.inl (h1 133 2))) h1)) : ft_V k_FT_compressed 0 [some (.inr (.inr 0))] [] h R := by
  refine fv_aload_n (ft_d o_FT_compressed 0 rfl) rfl rfl ?_
  refine fv_iconst (ft_d o_FT_compressed 1 rfl) rfl rfl ?_
  obtain ⟨R1, c2, w⟩ := w
  refine fv_callv (st := []) rfl rfl (ft_mm (pre := [.inl 2, .inr (.inr 0)]) rfl) (ft_rnV (K' := k_FT_settle) (As := [.inl 2]) (ft_d o_FT_compressed 2 rfl) ml_FT_150 li_FT_settle.1 li_FT_settle.2 lw_FT_settle ⟨rfl, rfl, Nat.le_of_ble_eq_true rfl, Nat.le_of_ble_eq_true rfl⟩ sh_0 rfl rfl rfl rfl (Nat.le_of_ble_eq_true rfl) c2) (fun h1 hw => ?_)
  have w := w h1 hw
  refine fv_aload_n (ft_d o_FT_compressed 3 rfl) rfl rfl ?_
  refine fv_getR (b := 133) (ft_d o_FT_compressed 4 rfl) rfl fl_FT_59 sh_0 rfl ly_0_8 ?_
  refine fv_getI (ft_d o_FT_compressed 5 rfl) rfl fl_FT_125 sh_133 rfl ?_
  exact fv_ireturn (ft_d o_FT_compressed 6 rfl) rfl w
set_option maxRecDepth 20000 in
theorem b_FT_entry_0 {x1 : Int} {x2 : Int} {h : ftH} {R : Option ftV → ftH → Prop} 
    (w : ((x1 < 0 → R (some (.inr (.inl ((-1))))) h) ∧ (¬ (x1 < 0) → ((x2 < 0 → R (some (.inr (.inl ((-1))))) h) ∧ (¬ (x2 < 0) → ((x2 ≤ 5 → ((4 ≤ x2 → (∃ R1 : Option ftV → ftH → Prop, ft_C k_FT_settle [.inr (.inr 0), .inl 3] h R1 ∧ ∀ h1 : ftH, R1 none h1 → ((x1 < h1 133 2 → ((3 ≤ x2 → ((¬ (x2 = 3) → ((¬ (x2 = 4) → (((0 ≤ x1 ∧ x1 < 60) ∧ 0 ≤ h1 143 3) ∧ ((¬ (h1 143 3 / 2 ^ (59 - x1.toNat) % 2 = 1) → R (some (.inr (.inl 0))) h1) ∧ (h1 143 3 / 2 ^ (59 - x1.toNat) % 2 = 1 → R (some (.inr (.inl 1))) h1)))) ∧ (x2 = 4 → ((0 ≤ x1 ∧ x1 < 60) ∧ R (some (.inr (.inl (h1 144 x1.toNat)))) h1)))) ∧ (x2 = 3 → ((0 ≤ x1 ∧ x1 < 60) ∧ R (some (.inr (.inl ((if (h1 138 x1.toNat) < 0 then (-2) else (h1 138 x1.toNat)))))) h1)))) ∧ (¬ (3 ≤ x2) → (((0 ≤ x1 ∧ x1 < ft_ln (133 + 1)) ∧ 0 ≤ h1 (133 + 1) x1.toNat) ∧ R (some (.inr (.inl ((if x2 = 0 then h1 (133 + 1) x1.toNat / 64 else if x2 = 1 then h1 (133 + 1) x1.toNat % 64 else h1 (133 + 2) x1.toNat))))) h1)))) ∧ (¬ (x1 < h1 133 2) → R (some (.inr (.inl ((-2))))) h1)))) ∧ (¬ (4 ≤ x2) → (∃ R9 : Option ftV → ftH → Prop, ft_C k_FT_settle [.inr (.inr 0), .inl 2] h R9 ∧ ∀ h2 : ftH, R9 none h2 → ((x1 < h2 133 2 → ((3 ≤ x2 → ((¬ (x2 = 3) → ((¬ (x2 = 4) → (((0 ≤ x1 ∧ x1 < 60) ∧ 0 ≤ h2 143 3) ∧ ((¬ (h2 143 3 / 2 ^ (59 - x1.toNat) % 2 = 1) → R (some (.inr (.inl 0))) h2) ∧ (h2 143 3 / 2 ^ (59 - x1.toNat) % 2 = 1 → R (some (.inr (.inl 1))) h2)))) ∧ (x2 = 4 → ((0 ≤ x1 ∧ x1 < 60) ∧ R (some (.inr (.inl (h2 144 x1.toNat)))) h2)))) ∧ (x2 = 3 → ((0 ≤ x1 ∧ x1 < 60) ∧ R (some (.inr (.inl ((if (h2 138 x1.toNat) < 0 then (-2) else (h2 138 x1.toNat)))))) h2)))) ∧ (¬ (3 ≤ x2) → (((0 ≤ x1 ∧ x1 < ft_ln (133 + 1)) ∧ 0 ≤ h2 (133 + 1) x1.toNat) ∧ R (some (.inr (.inl ((if x2 = 0 then h2 (133 + 1) x1.toNat / 64 else if x2 = 1 then h2 (133 + 1) x1.toNat % 64 else h2 (133 + 2) x1.toNat))))) h2)))) ∧ (¬ (x1 < h2 133 2) → R (some (.inr (.inl ((-2))))) h2)))))) ∧ (¬ (x2 ≤ 5) → R (some (.inr (.inl ((-1))))) h))))))) : ft_V k_FT_entry 0 [some (.inr (.inr 0)), some (.inl x1), some (.inl x2)] [] h R := by
  refine fv_iload_n (ft_d o_FT_entry 0 rfl) rfl rfl ?_
  refine fv_if_lt (tgt := 13) (ft_d o_FT_entry 1 rfl) rfl rfl (fun c => ?_) (fun c => ?_)
  · have w := w.1 c
    refine fv_ldc2 (v := (-1)) (z := (-1)) (ft_d o_FT_entry 7 rfl) rfl (ft_gt 624 (by decide +kernel) rfl) rfl ?_
    exact fv_lreturn (ft_d o_FT_entry 8 rfl) rfl w
  · have w := w.2 c
    refine fv_iload_n (ft_d o_FT_entry 2 rfl) rfl rfl ?_
    refine fv_if_lt (tgt := 13) (ft_d o_FT_entry 3 rfl) rfl rfl (fun c => ?_) (fun c => ?_)
    · have w := w.1 c
      refine fv_ldc2 (v := (-1)) (z := (-1)) (ft_d o_FT_entry 7 rfl) rfl (ft_gt 624 (by decide +kernel) rfl) rfl ?_
      exact fv_lreturn (ft_d o_FT_entry 8 rfl) rfl w
    · have w := w.2 c
      refine fv_iload_n (ft_d o_FT_entry 4 rfl) rfl rfl ?_
      refine fv_iconst (ft_d o_FT_entry 5 rfl) rfl rfl ?_
      refine fv_icmp_le (tgt := 17) (ft_d o_FT_entry 6 rfl) rfl rfl (fun c => ?_) (fun c => ?_)
      · have w := w.1 c
        refine fv_aload_n (ft_d o_FT_entry 9 rfl) rfl rfl ?_
        refine fv_iload_n (ft_d o_FT_entry 10 rfl) rfl rfl ?_
        refine fv_iconst (ft_d o_FT_entry 11 rfl) rfl rfl ?_
        refine fv_icmp_ge (tgt := 27) (ft_d o_FT_entry 12 rfl) rfl rfl (fun c => ?_) (fun c => ?_)
        · have w := w.1 c
          refine fv_iconst (ft_d o_FT_entry 15 rfl) rfl rfl ?_
          obtain ⟨R1, c2, w⟩ := w
          refine fv_callv (st := []) rfl rfl (ft_mm (pre := [.inl 3, .inr (.inr 0)]) rfl) (ft_rnV (K' := k_FT_settle) (As := [.inl 3]) (ft_d o_FT_entry 16 rfl) ml_FT_150 li_FT_settle.1 li_FT_settle.2 lw_FT_settle ⟨rfl, rfl, Nat.le_of_ble_eq_true rfl, Nat.le_of_ble_eq_true rfl⟩ sh_0 rfl rfl rfl rfl (Nat.le_of_ble_eq_true rfl) c2) (fun h1 hw => ?_)
          have w := w h1 hw
          refine fv_iload_n (ft_d o_FT_entry 17 rfl) rfl rfl ?_
          refine fv_aload_n (ft_d o_FT_entry 18 rfl) rfl rfl ?_
          refine fv_getR (b := 133) (ft_d o_FT_entry 19 rfl) rfl fl_FT_59 sh_0 rfl ly_0_8 ?_
          refine fv_getI (ft_d o_FT_entry 20 rfl) rfl fl_FT_125 sh_133 rfl ?_
          refine fv_icmp_lt (tgt := 46) (ft_d o_FT_entry 21 rfl) rfl rfl (fun c => ?_) (fun c => ?_)
          · have w := w.1 c
            refine fv_iload_n (ft_d o_FT_entry 24 rfl) rfl rfl ?_
            refine fv_iconst (ft_d o_FT_entry 25 rfl) rfl rfl ?_
            refine fv_icmp_ge (tgt := 61) (ft_d o_FT_entry 26 rfl) rfl rfl (fun c => ?_) (fun c => ?_)
            · have w := w.1 c
              refine fv_iload_n (ft_d o_FT_entry 33 rfl) rfl rfl ?_
              refine fv_iconst (ft_d o_FT_entry 34 rfl) rfl rfl ?_
              refine fv_icmp_ne (tgt := 80) (ft_d o_FT_entry 35 rfl) rfl rfl (fun c => ?_) (fun c => ?_)
              · have w := w.1 c
                refine fv_iload_n (ft_d o_FT_entry 44 rfl) rfl rfl ?_
                refine fv_iconst (ft_d o_FT_entry 45 rfl) rfl rfl ?_
                refine fv_icmp_ne (tgt := 96) (ft_d o_FT_entry 46 rfl) rfl rfl (fun c => ?_) (fun c => ?_)
                · have w := w.1 c
                  refine fv_aload_n (ft_d o_FT_entry 54 rfl) rfl rfl ?_
                  refine fv_getR (b := 143) (ft_d o_FT_entry 55 rfl) rfl fl_FT_69 sh_0 rfl ly_0_10 ?_
                  refine fv_iload_n (ft_d o_FT_entry 56 rfl) rfl rfl ?_
                  refine fv_callif (st := []) (z := (if h1 143 3 / 2 ^ (59 - x1.toNat) % 2 = 1 then 1 else 0)) (Or.inr rfl) rfl (ft_mm (pre := [.inl x1, .inr (.inr 143)]) rfl) (ft_rnV (K' := k_Ch_isKept) (As := [.inl x1]) (ft_d o_FT_entry 57 rfl) ml_FT_227 li_Ch_isKept.1 li_Ch_isKept.2 lw_Ch_isKept ⟨rfl, rfl, Nat.le_of_ble_eq_true rfl, Nat.le_of_ble_eq_true rfl⟩ sh_143 rfl rfl rfl rfl (Nat.le_of_ble_eq_true rfl) (c_Ch_isKept w.1)) ?_
                  have w := w.2
                  refine fv_if_eq (tgt := 111) (ft_d o_FT_entry 58 rfl) rfl rfl (fun c => ?_) (fun c => ?_)
                  · have w := w.1 (ft_if0.mp c)
                    refine fv_lconst (z := 0) (ft_d o_FT_entry 61 rfl) rfl rfl ?_
                    exact fv_lreturn (ft_d o_FT_entry 62 rfl) rfl w
                  · have w := w.2 (ft_if1.mp c)
                    refine fv_lconst (z := 1) (ft_d o_FT_entry 59 rfl) rfl rfl ?_
                    refine fv_goto (pc' := 112) (ft_d o_FT_entry 60 rfl) rfl ?_
                    exact fv_lreturn (ft_d o_FT_entry 62 rfl) rfl w
                · have w := w.2 c
                  refine fv_aload_n (ft_d o_FT_entry 47 rfl) rfl rfl ?_
                  refine fv_getR (b := 143) (ft_d o_FT_entry 48 rfl) rfl fl_FT_69 sh_0 rfl ly_0_10 ?_
                  refine fv_getR (b := 144) (ft_d o_FT_entry 49 rfl) rfl fl_FT_224 sh_143 rfl ly_143_0 ?_
                  refine fv_iload_n (ft_d o_FT_entry 50 rfl) rfl rfl ?_
                  refine fv_iald (ft_d o_FT_entry 51 rfl) rfl sh_144 w.1 ?_
                  have w := w.2
                  refine fv_i2l (ft_d o_FT_entry 52 rfl) rfl ?_
                  exact fv_lreturn (ft_d o_FT_entry 53 rfl) rfl w
              · have w := w.2 c
                refine fv_aload_n (ft_d o_FT_entry 36 rfl) rfl rfl ?_
                refine fv_getR (b := 136) (ft_d o_FT_entry 37 rfl) rfl fl_FT_63 sh_0 rfl ly_0_9 ?_
                refine fv_getR (b := 138) (ft_d o_FT_entry 38 rfl) rfl fl_FT_153 sh_136 rfl ly_136_0 ?_
                refine fv_iload_n (ft_d o_FT_entry 39 rfl) rfl rfl ?_
                refine fv_iald (ft_d o_FT_entry 40 rfl) rfl sh_138 w.1 ?_
                have w := w.2
                refine fv_callif (st := []) (z := (if (h1 138 x1.toNat) < 0 then (-2) else (h1 138 x1.toNat))) (Or.inl rfl) rfl (ft_mm (pre := [.inl (h1 138 x1.toNat)]) rfl) (ft_rnS (K' := k_FT_numberOrNotFound) (As := [.inl (h1 138 x1.toNat)]) (ft_d o_FT_entry 41 rfl) ml_FT_157 lz_FT_numberOrNotFound rfl lw_FT_numberOrNotFound ⟨rfl, rfl, Nat.le_of_ble_eq_true rfl, Nat.le_of_ble_eq_true rfl⟩ rfl rfl (Nat.le_of_ble_eq_true rfl) (c_FT_numberOrNotFound)) ?_
                refine fv_i2l (ft_d o_FT_entry 42 rfl) rfl ?_
                exact fv_lreturn (ft_d o_FT_entry 43 rfl) rfl w
            · have w := w.2 c
              refine fv_aload_n (ft_d o_FT_entry 27 rfl) rfl rfl ?_
              refine fv_getR (b := 133) (ft_d o_FT_entry 28 rfl) rfl fl_FT_59 sh_0 rfl ly_0_8 ?_
              refine fv_iload_n (ft_d o_FT_entry 29 rfl) rfl rfl ?_
              refine fv_iload_n (ft_d o_FT_entry 30 rfl) rfl rfl ?_
              refine fv_calllf (st := []) (z := (if x2 = 0 then h1 (133 + 1) x1.toNat / 64 else if x2 = 1 then h1 (133 + 1) x1.toNat % 64 else h1 (133 + 2) x1.toNat)) rfl rfl (ft_mm (pre := [.inl x2, .inl x1, .inr (.inr 133)]) rfl) (ft_rnV (K' := k_PS_tell) (As := [.inl x1, .inl x2]) (ft_d o_FT_entry 31 rfl) ml_FT_146 li_PS_tell.1 li_PS_tell.2 lw_PS_tell ⟨rfl, rfl, Nat.le_of_ble_eq_true rfl, Nat.le_of_ble_eq_true rfl⟩ sh_133 rfl rfl rfl rfl (Nat.le_of_ble_eq_true rfl) (c_PS_tell sh_133 w.1)) ?_
              have w := w.2
              exact fv_lreturn (ft_d o_FT_entry 32 rfl) rfl w
          · have w := w.2 c
            refine fv_ldc2 (v := (-2)) (z := (-2)) (ft_d o_FT_entry 22 rfl) rfl (ft_gt 625 (by decide +kernel) rfl) rfl ?_
            exact fv_lreturn (ft_d o_FT_entry 23 rfl) rfl w
        · have w := w.2 c
          refine fv_iconst (ft_d o_FT_entry 13 rfl) rfl rfl ?_
          refine fv_goto (pc' := 28) (ft_d o_FT_entry 14 rfl) rfl ?_
          obtain ⟨R9, c10, w⟩ := w
          refine fv_callv (st := []) rfl rfl (ft_mm (pre := [.inl 2, .inr (.inr 0)]) rfl) (ft_rnV (K' := k_FT_settle) (As := [.inl 2]) (ft_d o_FT_entry 16 rfl) ml_FT_150 li_FT_settle.1 li_FT_settle.2 lw_FT_settle ⟨rfl, rfl, Nat.le_of_ble_eq_true rfl, Nat.le_of_ble_eq_true rfl⟩ sh_0 rfl rfl rfl rfl (Nat.le_of_ble_eq_true rfl) c10) (fun h2 hw => ?_)
          have w := w h2 hw
          refine fv_iload_n (ft_d o_FT_entry 17 rfl) rfl rfl ?_
          refine fv_aload_n (ft_d o_FT_entry 18 rfl) rfl rfl ?_
          refine fv_getR (b := 133) (ft_d o_FT_entry 19 rfl) rfl fl_FT_59 sh_0 rfl ly_0_8 ?_
          refine fv_getI (ft_d o_FT_entry 20 rfl) rfl fl_FT_125 sh_133 rfl ?_
          refine fv_icmp_lt (tgt := 46) (ft_d o_FT_entry 21 rfl) rfl rfl (fun c => ?_) (fun c => ?_)
          · have w := w.1 c
            refine fv_iload_n (ft_d o_FT_entry 24 rfl) rfl rfl ?_
            refine fv_iconst (ft_d o_FT_entry 25 rfl) rfl rfl ?_
            refine fv_icmp_ge (tgt := 61) (ft_d o_FT_entry 26 rfl) rfl rfl (fun c => ?_) (fun c => ?_)
            · have w := w.1 c
              refine fv_iload_n (ft_d o_FT_entry 33 rfl) rfl rfl ?_
              refine fv_iconst (ft_d o_FT_entry 34 rfl) rfl rfl ?_
              refine fv_icmp_ne (tgt := 80) (ft_d o_FT_entry 35 rfl) rfl rfl (fun c => ?_) (fun c => ?_)
              · have w := w.1 c
                refine fv_iload_n (ft_d o_FT_entry 44 rfl) rfl rfl ?_
                refine fv_iconst (ft_d o_FT_entry 45 rfl) rfl rfl ?_
                refine fv_icmp_ne (tgt := 96) (ft_d o_FT_entry 46 rfl) rfl rfl (fun c => ?_) (fun c => ?_)
                · have w := w.1 c
                  refine fv_aload_n (ft_d o_FT_entry 54 rfl) rfl rfl ?_
                  refine fv_getR (b := 143) (ft_d o_FT_entry 55 rfl) rfl fl_FT_69 sh_0 rfl ly_0_10 ?_
                  refine fv_iload_n (ft_d o_FT_entry 56 rfl) rfl rfl ?_
                  refine fv_callif (st := []) (z := (if h2 143 3 / 2 ^ (59 - x1.toNat) % 2 = 1 then 1 else 0)) (Or.inr rfl) rfl (ft_mm (pre := [.inl x1, .inr (.inr 143)]) rfl) (ft_rnV (K' := k_Ch_isKept) (As := [.inl x1]) (ft_d o_FT_entry 57 rfl) ml_FT_227 li_Ch_isKept.1 li_Ch_isKept.2 lw_Ch_isKept ⟨rfl, rfl, Nat.le_of_ble_eq_true rfl, Nat.le_of_ble_eq_true rfl⟩ sh_143 rfl rfl rfl rfl (Nat.le_of_ble_eq_true rfl) (c_Ch_isKept w.1)) ?_
                  have w := w.2
                  refine fv_if_eq (tgt := 111) (ft_d o_FT_entry 58 rfl) rfl rfl (fun c => ?_) (fun c => ?_)
                  · have w := w.1 (ft_if0.mp c)
                    refine fv_lconst (z := 0) (ft_d o_FT_entry 61 rfl) rfl rfl ?_
                    exact fv_lreturn (ft_d o_FT_entry 62 rfl) rfl w
                  · have w := w.2 (ft_if1.mp c)
                    refine fv_lconst (z := 1) (ft_d o_FT_entry 59 rfl) rfl rfl ?_
                    refine fv_goto (pc' := 112) (ft_d o_FT_entry 60 rfl) rfl ?_
                    exact fv_lreturn (ft_d o_FT_entry 62 rfl) rfl w
                · have w := w.2 c
                  refine fv_aload_n (ft_d o_FT_entry 47 rfl) rfl rfl ?_
                  refine fv_getR (b := 143) (ft_d o_FT_entry 48 rfl) rfl fl_FT_69 sh_0 rfl ly_0_10 ?_
                  refine fv_getR (b := 144) (ft_d o_FT_entry 49 rfl) rfl fl_FT_224 sh_143 rfl ly_143_0 ?_
                  refine fv_iload_n (ft_d o_FT_entry 50 rfl) rfl rfl ?_
                  refine fv_iald (ft_d o_FT_entry 51 rfl) rfl sh_144 w.1 ?_
                  have w := w.2
                  refine fv_i2l (ft_d o_FT_entry 52 rfl) rfl ?_
                  exact fv_lreturn (ft_d o_FT_entry 53 rfl) rfl w
              · have w := w.2 c
                refine fv_aload_n (ft_d o_FT_entry 36 rfl) rfl rfl ?_
                refine fv_getR (b := 136) (ft_d o_FT_entry 37 rfl) rfl fl_FT_63 sh_0 rfl ly_0_9 ?_
                refine fv_getR (b := 138) (ft_d o_FT_entry 38 rfl) rfl fl_FT_153 sh_136 rfl ly_136_0 ?_
                refine fv_iload_n (ft_d o_FT_entry 39 rfl) rfl rfl ?_
                refine fv_iald (ft_d o_FT_entry 40 rfl) rfl sh_138 w.1 ?_
                have w := w.2
                refine fv_callif (st := []) (z := (if (h2 138 x1.toNat) < 0 then (-2) else (h2 138 x1.toNat))) (Or.inl rfl) rfl (ft_mm (pre := [.inl (h2 138 x1.toNat)]) rfl) (ft_rnS (K' := k_FT_numberOrNotFound) (As := [.inl (h2 138 x1.toNat)]) (ft_d o_FT_entry 41 rfl) ml_FT_157 lz_FT_numberOrNotFound rfl lw_FT_numberOrNotFound ⟨rfl, rfl, Nat.le_of_ble_eq_true rfl, Nat.le_of_ble_eq_true rfl⟩ rfl rfl (Nat.le_of_ble_eq_true rfl) (c_FT_numberOrNotFound)) ?_
                refine fv_i2l (ft_d o_FT_entry 42 rfl) rfl ?_
                exact fv_lreturn (ft_d o_FT_entry 43 rfl) rfl w
            · have w := w.2 c
              refine fv_aload_n (ft_d o_FT_entry 27 rfl) rfl rfl ?_
              refine fv_getR (b := 133) (ft_d o_FT_entry 28 rfl) rfl fl_FT_59 sh_0 rfl ly_0_8 ?_
              refine fv_iload_n (ft_d o_FT_entry 29 rfl) rfl rfl ?_
              refine fv_iload_n (ft_d o_FT_entry 30 rfl) rfl rfl ?_
              refine fv_calllf (st := []) (z := (if x2 = 0 then h2 (133 + 1) x1.toNat / 64 else if x2 = 1 then h2 (133 + 1) x1.toNat % 64 else h2 (133 + 2) x1.toNat)) rfl rfl (ft_mm (pre := [.inl x2, .inl x1, .inr (.inr 133)]) rfl) (ft_rnV (K' := k_PS_tell) (As := [.inl x1, .inl x2]) (ft_d o_FT_entry 31 rfl) ml_FT_146 li_PS_tell.1 li_PS_tell.2 lw_PS_tell ⟨rfl, rfl, Nat.le_of_ble_eq_true rfl, Nat.le_of_ble_eq_true rfl⟩ sh_133 rfl rfl rfl rfl (Nat.le_of_ble_eq_true rfl) (c_PS_tell sh_133 w.1)) ?_
              have w := w.2
              exact fv_lreturn (ft_d o_FT_entry 32 rfl) rfl w
          · have w := w.2 c
            refine fv_ldc2 (v := (-2)) (z := (-2)) (ft_d o_FT_entry 22 rfl) rfl (ft_gt 625 (by decide +kernel) rfl) rfl ?_
            exact fv_lreturn (ft_d o_FT_entry 23 rfl) rfl w
      · have w := w.2 c
        refine fv_ldc2 (v := (-1)) (z := (-1)) (ft_d o_FT_entry 7 rfl) rfl (ft_gt 624 (by decide +kernel) rfl) rfl ?_
        exact fv_lreturn (ft_d o_FT_entry 8 rfl) rfl w
set_option maxRecDepth 20000 in
theorem b_FT_hopHits_0 {x1 : Int} {h : ftH} {R : Option ftV → ftH → Prop} 
    (w : ((x1 < 0 → R (some (.inl ((-1)))) h) ∧ (¬ (x1 < 0) → ((x1 ≤ 15 → ft_V k_FT_hopHits 16 [some (.inr (.inr 0)), some (.inl x1), some (.inl 0), some (.inl 0)] [] h R) ∧ (¬ (x1 ≤ 15) → R (some (.inl ((-1)))) h))))) : ft_V k_FT_hopHits 0 [some (.inr (.inr 0)), some (.inl x1), none, none] [] h R := by
  refine fv_iload_n (ft_d o_FT_hopHits 0 rfl) rfl rfl ?_
  refine fv_if_lt (tgt := 10) (ft_d o_FT_hopHits 1 rfl) rfl rfl (fun c => ?_) (fun c => ?_)
  · have w := w.1 c
    refine fv_iconst (ft_d o_FT_hopHits 5 rfl) rfl rfl ?_
    exact fv_ireturn (ft_d o_FT_hopHits 6 rfl) rfl w
  · have w := w.2 c
    refine fv_iload_n (ft_d o_FT_hopHits 2 rfl) rfl rfl ?_
    refine fv_bipush (ft_d o_FT_hopHits 3 rfl) rfl rfl ?_
    refine fv_icmp_le (tgt := 12) (ft_d o_FT_hopHits 4 rfl) rfl rfl (fun c => ?_) (fun c => ?_)
    · have w := w.1 c
      refine fv_iconst (ft_d o_FT_hopHits 7 rfl) rfl rfl ?_
      refine fv_istore_n (L' := [some (.inr (.inr 0)), some (.inl x1), some (.inl 0), none]) (ft_d o_FT_hopHits 8 rfl) rfl (Nat.le_of_ble_eq_true rfl) rfl ?_
      refine fv_iconst (ft_d o_FT_hopHits 9 rfl) rfl rfl ?_
      refine fv_istore_n (L' := [some (.inr (.inr 0)), some (.inl x1), some (.inl 0), some (.inl 0)]) (ft_d o_FT_hopHits 10 rfl) rfl (Nat.le_of_ble_eq_true rfl) rfl ?_
      exact w
    · have w := w.2 c
      refine fv_iconst (ft_d o_FT_hopHits 5 rfl) rfl rfl ?_
      exact fv_ireturn (ft_d o_FT_hopHits 6 rfl) rfl w
set_option maxRecDepth 20000 in
theorem b_FT_hopHits_16 {x1 : Int} {x2 : Int} {x3 : Int} {h : ftH} {R : Option ftV → ftH → Prop} 
    (w : ((h 8 2 ≤ x3 → R (some (.inl x2)) h) ∧ (¬ (h 8 2 ≤ x3) → ((0 ≤ x3 ∧ x3 < 40) ∧ (∃ R1 : Option ftV → ftH → Prop, ft_C k_FT_answerFor [.inr (.inr 0), .inr (.inl (h 9 x3.toNat))] h R1 ∧ ∀ (z3 : Int) (h1 : ftH), ft_in z3 → R1 (some (.inl z3)) h1 → ((¬ (z3 = x1) → ft_V k_FT_hopHits 16 [some (.inr (.inr 0)), some (.inl x1), some (.inl x2), some (.inl (ft_add x3 1))] [] h1 R) ∧ (z3 = x1 → ((0 ≤ x3 ∧ x3 < 40) ∧ (∀ n4 : Int, n4 = ft_add x2 (h1 10 x3.toNat) → ft_V k_FT_hopHits 16 [some (.inr (.inr 0)), some (.inl x1), some (.inl n4), some (.inl (ft_add x3 1))] [] h1 R))))))))) : ft_V k_FT_hopHits 16 [some (.inr (.inr 0)), some (.inl x1), some (.inl x2), some (.inl x3)] [] h R := by
  refine fv_iload_n (ft_d o_FT_hopHits 11 rfl) rfl rfl ?_
  refine fv_aload_n (ft_d o_FT_hopHits 12 rfl) rfl rfl ?_
  refine fv_getR (b := 1) (ft_d o_FT_hopHits 13 rfl) rfl fl_FT_12 sh_0 rfl ly_0_0 ?_
  refine fv_getR (b := 8) (ft_d o_FT_hopHits 14 rfl) rfl fl_FT_202 sh_1 rfl ly_1_3 ?_
  refine fv_getI (ft_d o_FT_hopHits 15 rfl) rfl fl_FT_214 sh_8 rfl ?_
  refine fv_icmp_ge (tgt := 71) (ft_d o_FT_hopHits 16 rfl) rfl rfl (fun c => ?_) (fun c => ?_)
  · have w := w.1 c
    refine fv_iload_n (ft_d o_FT_hopHits 38 rfl) rfl rfl ?_
    exact fv_ireturn (ft_d o_FT_hopHits 39 rfl) rfl w
  · have w := w.2 c
    refine fv_aload_n (ft_d o_FT_hopHits 17 rfl) rfl rfl ?_
    refine fv_aload_n (ft_d o_FT_hopHits 18 rfl) rfl rfl ?_
    refine fv_getR (b := 1) (ft_d o_FT_hopHits 19 rfl) rfl fl_FT_12 sh_0 rfl ly_0_0 ?_
    refine fv_getR (b := 8) (ft_d o_FT_hopHits 20 rfl) rfl fl_FT_202 sh_1 rfl ly_1_3 ?_
    refine fv_getR (b := 9) (ft_d o_FT_hopHits 21 rfl) rfl fl_FT_218 sh_8 rfl ly_8_0 ?_
    refine fv_iload_n (ft_d o_FT_hopHits 22 rfl) rfl rfl ?_
    refine fv_lald (ft_d o_FT_hopHits 23 rfl) rfl sh_9 w.1 ?_
    have w := w.2
    obtain ⟨R1, c2, w⟩ := w
    refine fv_calli (st := []) (Or.inl rfl) rfl (ft_mm (pre := [.inr (.inl (h 9 x3.toNat)), .inr (.inr 0)]) rfl) (ft_rnV (K' := k_FT_answerFor) (As := [.inr (.inl (h 9 x3.toNat))]) (ft_d o_FT_hopHits 24 rfl) ml_FT_192 li_FT_answerFor.1 li_FT_answerFor.2 lw_FT_answerFor ⟨rfl, rfl, Nat.le_of_ble_eq_true rfl, Nat.le_of_ble_eq_true rfl⟩ sh_0 rfl rfl rfl rfl (Nat.le_of_ble_eq_true rfl) c2) (fun z3 h1 hz hw => ?_)
    have w := w z3 h1 hz hw
    refine fv_iload_n (ft_d o_FT_hopHits 25 rfl) rfl rfl ?_
    refine fv_icmp_ne (tgt := 65) (ft_d o_FT_hopHits 26 rfl) rfl rfl (fun c => ?_) (fun c => ?_)
    · have w := w.1 c
      refine fv_iinc (L' := [some (.inr (.inr 0)), some (.inl x1), some (.inl x2), some (.inl (ft_add x3 1))]) (ft_d o_FT_hopHits 36 rfl) rfl rfl (Nat.le_of_ble_eq_true rfl) rfl ?_
      refine fv_goto (pc' := 16) (ft_d o_FT_hopHits 37 rfl) rfl ?_
      exact w
    · have w := w.2 c
      refine fv_iload_n (ft_d o_FT_hopHits 27 rfl) rfl rfl ?_
      refine fv_aload_n (ft_d o_FT_hopHits 28 rfl) rfl rfl ?_
      refine fv_getR (b := 1) (ft_d o_FT_hopHits 29 rfl) rfl fl_FT_12 sh_0 rfl ly_0_0 ?_
      refine fv_getR (b := 8) (ft_d o_FT_hopHits 30 rfl) rfl fl_FT_202 sh_1 rfl ly_1_3 ?_
      refine fv_getR (b := 10) (ft_d o_FT_hopHits 31 rfl) rfl fl_FT_221 sh_8 rfl ly_8_1 ?_
      refine fv_iload_n (ft_d o_FT_hopHits 32 rfl) rfl rfl ?_
      refine fv_iald (ft_d o_FT_hopHits 33 rfl) rfl sh_10 w.1 ?_
      have w := w.2
      refine fv_iadd (ft_d o_FT_hopHits 34 rfl) rfl ?_
      generalize en4 : ft_add x2 (h1 10 x3.toNat) = n4
      have w := w n4 en4.symm
      refine fv_istore_n (L' := [some (.inr (.inr 0)), some (.inl x1), some (.inl n4), some (.inl x3)]) (ft_d o_FT_hopHits 35 rfl) rfl (Nat.le_of_ble_eq_true rfl) rfl ?_
      refine fv_iinc (L' := [some (.inr (.inr 0)), some (.inl x1), some (.inl n4), some (.inl (ft_add x3 1))]) (ft_d o_FT_hopHits 36 rfl) rfl rfl (Nat.le_of_ble_eq_true rfl) rfl ?_
      refine fv_goto (pc' := 16) (ft_d o_FT_hopHits 37 rfl) rfl ?_
      exact w
set_option maxRecDepth 20000 in
theorem b_FT_busiest_0  {h : ftH} {R : Option ftV → ftH → Prop} 
    (w : (∃ R1 : Option ftV → ftH → Prop, ft_C k_FT_settle [.inr (.inr 0), .inl 3] h R1 ∧ ∀ h1 : ftH, R1 none h1 → (∀ n3 : Int, n3 = (-2) → ft_V k_FT_busiest 12 [some (.inr (.inr 0)), some (.inl n3), some (.inl 0), some (.inl 0)] [] h1 R))) : ft_V k_FT_busiest 0 [some (.inr (.inr 0)), none, none, none] [] h R := by
  refine fv_aload_n (ft_d o_FT_busiest 0 rfl) rfl rfl ?_
  refine fv_iconst (ft_d o_FT_busiest 1 rfl) rfl rfl ?_
  obtain ⟨R1, c2, w⟩ := w
  refine fv_callv (st := []) rfl rfl (ft_mm (pre := [.inl 3, .inr (.inr 0)]) rfl) (ft_rnV (K' := k_FT_settle) (As := [.inl 3]) (ft_d o_FT_busiest 2 rfl) ml_FT_150 li_FT_settle.1 li_FT_settle.2 lw_FT_settle ⟨rfl, rfl, Nat.le_of_ble_eq_true rfl, Nat.le_of_ble_eq_true rfl⟩ sh_0 rfl rfl rfl rfl (Nat.le_of_ble_eq_true rfl) c2) (fun h1 hw => ?_)
  have w := w h1 hw
  refine fv_bipush (ft_d o_FT_busiest 3 rfl) rfl rfl ?_
  generalize en3 : (-2) = n3
  have w := w n3 en3.symm
  refine fv_istore_n (L' := [some (.inr (.inr 0)), some (.inl n3), none, none]) (ft_d o_FT_busiest 4 rfl) rfl (Nat.le_of_ble_eq_true rfl) rfl ?_
  refine fv_iconst (ft_d o_FT_busiest 5 rfl) rfl rfl ?_
  refine fv_istore_n (L' := [some (.inr (.inr 0)), some (.inl n3), some (.inl 0), none]) (ft_d o_FT_busiest 6 rfl) rfl (Nat.le_of_ble_eq_true rfl) rfl ?_
  refine fv_iconst (ft_d o_FT_busiest 7 rfl) rfl rfl ?_
  refine fv_istore_n (L' := [some (.inr (.inr 0)), some (.inl n3), some (.inl 0), some (.inl 0)]) (ft_d o_FT_busiest 8 rfl) rfl (Nat.le_of_ble_eq_true rfl) rfl ?_
  exact w
set_option maxRecDepth 20000 in
theorem b_FT_busiest_12 {x1 : Int} {x2 : Int} {x3 : Int} {h : ftH} {R : Option ftV → ftH → Prop} 
    (w : ((h 133 2 ≤ x3 → R (some (.inl x1)) h) ∧ (¬ (h 133 2 ≤ x3) → ((0 ≤ x3 ∧ x3 < 60) ∧ ((h 144 x3.toNat ≤ x2 → ft_V k_FT_busiest 12 [some (.inr (.inr 0)), some (.inl x1), some (.inl x2), some (.inl (ft_add x3 1))] [] h R) ∧ (¬ (h 144 x3.toNat ≤ x2) → ((0 ≤ x3 ∧ x3 < 60) ∧ (∀ n1 : Int, n1 = h 144 x3.toNat → ft_V k_FT_busiest 12 [some (.inr (.inr 0)), some (.inl x3), some (.inl n1), some (.inl (ft_add x3 1))] [] h R)))))))) : ft_V k_FT_busiest 12 [some (.inr (.inr 0)), some (.inl x1), some (.inl x2), some (.inl x3)] [] h R := by
  refine fv_iload_n (ft_d o_FT_busiest 9 rfl) rfl rfl ?_
  refine fv_aload_n (ft_d o_FT_busiest 10 rfl) rfl rfl ?_
  refine fv_getR (b := 133) (ft_d o_FT_busiest 11 rfl) rfl fl_FT_59 sh_0 rfl ly_0_8 ?_
  refine fv_getI (ft_d o_FT_busiest 12 rfl) rfl fl_FT_125 sh_133 rfl ?_
  refine fv_icmp_ge (tgt := 54) (ft_d o_FT_busiest 13 rfl) rfl rfl (fun c => ?_) (fun c => ?_)
  · have w := w.1 c
    refine fv_iload_n (ft_d o_FT_busiest 31 rfl) rfl rfl ?_
    exact fv_ireturn (ft_d o_FT_busiest 32 rfl) rfl w
  · have w := w.2 c
    refine fv_aload_n (ft_d o_FT_busiest 14 rfl) rfl rfl ?_
    refine fv_getR (b := 143) (ft_d o_FT_busiest 15 rfl) rfl fl_FT_69 sh_0 rfl ly_0_10 ?_
    refine fv_getR (b := 144) (ft_d o_FT_busiest 16 rfl) rfl fl_FT_224 sh_143 rfl ly_143_0 ?_
    refine fv_iload_n (ft_d o_FT_busiest 17 rfl) rfl rfl ?_
    refine fv_iald (ft_d o_FT_busiest 18 rfl) rfl sh_144 w.1 ?_
    have w := w.2
    refine fv_iload_n (ft_d o_FT_busiest 19 rfl) rfl rfl ?_
    refine fv_icmp_le (tgt := 48) (ft_d o_FT_busiest 20 rfl) rfl rfl (fun c => ?_) (fun c => ?_)
    · have w := w.1 c
      refine fv_iinc (L' := [some (.inr (.inr 0)), some (.inl x1), some (.inl x2), some (.inl (ft_add x3 1))]) (ft_d o_FT_busiest 29 rfl) rfl rfl (Nat.le_of_ble_eq_true rfl) rfl ?_
      refine fv_goto (pc' := 12) (ft_d o_FT_busiest 30 rfl) rfl ?_
      exact w
    · have w := w.2 c
      refine fv_aload_n (ft_d o_FT_busiest 21 rfl) rfl rfl ?_
      refine fv_getR (b := 143) (ft_d o_FT_busiest 22 rfl) rfl fl_FT_69 sh_0 rfl ly_0_10 ?_
      refine fv_getR (b := 144) (ft_d o_FT_busiest 23 rfl) rfl fl_FT_224 sh_143 rfl ly_143_0 ?_
      refine fv_iload_n (ft_d o_FT_busiest 24 rfl) rfl rfl ?_
      refine fv_iald (ft_d o_FT_busiest 25 rfl) rfl sh_144 w.1 ?_
      have w := w.2
      generalize en1 : h 144 x3.toNat = n1
      have w := w n1 en1.symm
      refine fv_istore_n (L' := [some (.inr (.inr 0)), some (.inl x1), some (.inl n1), some (.inl x3)]) (ft_d o_FT_busiest 26 rfl) rfl (Nat.le_of_ble_eq_true rfl) rfl ?_
      refine fv_iload_n (ft_d o_FT_busiest 27 rfl) rfl rfl ?_
      refine fv_istore_n (L' := [some (.inr (.inr 0)), some (.inl x3), some (.inl n1), some (.inl x3)]) (ft_d o_FT_busiest 28 rfl) rfl (Nat.le_of_ble_eq_true rfl) rfl ?_
      refine fv_iinc (L' := [some (.inr (.inr 0)), some (.inl x3), some (.inl n1), some (.inl (ft_add x3 1))]) (ft_d o_FT_busiest 29 rfl) rfl rfl (Nat.le_of_ble_eq_true rfl) rfl ?_
      refine fv_goto (pc' := 12) (ft_d o_FT_busiest 30 rfl) rfl ?_
      exact w
set_option maxRecDepth 20000 in
theorem b_FT_coldest_0  {h : ftH} {R : Option ftV → ftH → Prop} 
    (w : (∃ R1 : Option ftV → ftH → Prop, ft_C k_FT_settle [.inr (.inr 0), .inl 3] h R1 ∧ ∀ h1 : ftH, R1 none h1 → (∀ n3 : Int, n3 = (-2) → ft_V k_FT_coldest 12 [some (.inr (.inr 0)), some (.inl n3), some (.inl 0), some (.inl 0)] [] h1 R))) : ft_V k_FT_coldest 0 [some (.inr (.inr 0)), none, none, none] [] h R := by
  refine fv_aload_n (ft_d o_FT_coldest 0 rfl) rfl rfl ?_
  refine fv_iconst (ft_d o_FT_coldest 1 rfl) rfl rfl ?_
  obtain ⟨R1, c2, w⟩ := w
  refine fv_callv (st := []) rfl rfl (ft_mm (pre := [.inl 3, .inr (.inr 0)]) rfl) (ft_rnV (K' := k_FT_settle) (As := [.inl 3]) (ft_d o_FT_coldest 2 rfl) ml_FT_150 li_FT_settle.1 li_FT_settle.2 lw_FT_settle ⟨rfl, rfl, Nat.le_of_ble_eq_true rfl, Nat.le_of_ble_eq_true rfl⟩ sh_0 rfl rfl rfl rfl (Nat.le_of_ble_eq_true rfl) c2) (fun h1 hw => ?_)
  have w := w h1 hw
  refine fv_bipush (ft_d o_FT_coldest 3 rfl) rfl rfl ?_
  generalize en3 : (-2) = n3
  have w := w n3 en3.symm
  refine fv_istore_n (L' := [some (.inr (.inr 0)), some (.inl n3), none, none]) (ft_d o_FT_coldest 4 rfl) rfl (Nat.le_of_ble_eq_true rfl) rfl ?_
  refine fv_iconst (ft_d o_FT_coldest 5 rfl) rfl rfl ?_
  refine fv_istore_n (L' := [some (.inr (.inr 0)), some (.inl n3), some (.inl 0), none]) (ft_d o_FT_coldest 6 rfl) rfl (Nat.le_of_ble_eq_true rfl) rfl ?_
  refine fv_iconst (ft_d o_FT_coldest 7 rfl) rfl rfl ?_
  refine fv_istore_n (L' := [some (.inr (.inr 0)), some (.inl n3), some (.inl 0), some (.inl 0)]) (ft_d o_FT_coldest 8 rfl) rfl (Nat.le_of_ble_eq_true rfl) rfl ?_
  exact w
set_option maxRecDepth 20000 in
theorem b_FT_coldest_12 {x1 : Int} {x2 : Int} {x3 : Int} {h : ftH} {R : Option ftV → ftH → Prop} 
    (w : ((h 133 2 ≤ x3 → R (some (.inl x1)) h) ∧ (¬ (h 133 2 ≤ x3) → (((0 ≤ x3 ∧ x3 < 60) ∧ 0 ≤ h 143 3) ∧ ((¬ (h 143 3 / 2 ^ (59 - x3.toNat) % 2 = 1) → ft_V k_FT_coldest 12 [some (.inr (.inr 0)), some (.inl x1), some (.inl x2), some (.inl (ft_add x3 1))] [] h R) ∧ (h 143 3 / 2 ^ (59 - x3.toNat) % 2 = 1 → ((x1 < 0 → ((0 ≤ x3 ∧ x3 < 60) ∧ (∀ n3 : Int, n3 = h 144 x3.toNat → ft_V k_FT_coldest 12 [some (.inr (.inr 0)), some (.inl x3), some (.inl n3), some (.inl (ft_add x3 1))] [] h R))) ∧ (¬ (x1 < 0) → ((0 ≤ x3 ∧ x3 < 60) ∧ ((x2 ≤ h 144 x3.toNat → ft_V k_FT_coldest 12 [some (.inr (.inr 0)), some (.inl x1), some (.inl x2), some (.inl (ft_add x3 1))] [] h R) ∧ (¬ (x2 ≤ h 144 x3.toNat) → ((0 ≤ x3 ∧ x3 < 60) ∧ (∀ n4 : Int, n4 = h 144 x3.toNat → ft_V k_FT_coldest 12 [some (.inr (.inr 0)), some (.inl x3), some (.inl n4), some (.inl (ft_add x3 1))] [] h R))))))))))))) : ft_V k_FT_coldest 12 [some (.inr (.inr 0)), some (.inl x1), some (.inl x2), some (.inl x3)] [] h R := by
  refine fv_iload_n (ft_d o_FT_coldest 9 rfl) rfl rfl ?_
  refine fv_aload_n (ft_d o_FT_coldest 10 rfl) rfl rfl ?_
  refine fv_getR (b := 133) (ft_d o_FT_coldest 11 rfl) rfl fl_FT_59 sh_0 rfl ly_0_8 ?_
  refine fv_getI (ft_d o_FT_coldest 12 rfl) rfl fl_FT_125 sh_133 rfl ?_
  refine fv_icmp_ge (tgt := 69) (ft_d o_FT_coldest 13 rfl) rfl rfl (fun c => ?_) (fun c => ?_)
  · have w := w.1 c
    refine fv_iload_n (ft_d o_FT_coldest 38 rfl) rfl rfl ?_
    exact fv_ireturn (ft_d o_FT_coldest 39 rfl) rfl w
  · have w := w.2 c
    refine fv_aload_n (ft_d o_FT_coldest 14 rfl) rfl rfl ?_
    refine fv_getR (b := 143) (ft_d o_FT_coldest 15 rfl) rfl fl_FT_69 sh_0 rfl ly_0_10 ?_
    refine fv_iload_n (ft_d o_FT_coldest 16 rfl) rfl rfl ?_
    refine fv_callif (st := []) (z := (if h 143 3 / 2 ^ (59 - x3.toNat) % 2 = 1 then 1 else 0)) (Or.inr rfl) rfl (ft_mm (pre := [.inl x3, .inr (.inr 143)]) rfl) (ft_rnV (K' := k_Ch_isKept) (As := [.inl x3]) (ft_d o_FT_coldest 17 rfl) ml_FT_227 li_Ch_isKept.1 li_Ch_isKept.2 lw_Ch_isKept ⟨rfl, rfl, Nat.le_of_ble_eq_true rfl, Nat.le_of_ble_eq_true rfl⟩ sh_143 rfl rfl rfl rfl (Nat.le_of_ble_eq_true rfl) (c_Ch_isKept w.1)) ?_
    have w := w.2
    refine fv_if_eq (tgt := 63) (ft_d o_FT_coldest 18 rfl) rfl rfl (fun c => ?_) (fun c => ?_)
    · have w := w.1 (ft_if0.mp c)
      refine fv_iinc (L' := [some (.inr (.inr 0)), some (.inl x1), some (.inl x2), some (.inl (ft_add x3 1))]) (ft_d o_FT_coldest 36 rfl) rfl rfl (Nat.le_of_ble_eq_true rfl) rfl ?_
      refine fv_goto (pc' := 12) (ft_d o_FT_coldest 37 rfl) rfl ?_
      exact w
    · have w := w.2 (ft_if1.mp c)
      refine fv_iload_n (ft_d o_FT_coldest 19 rfl) rfl rfl ?_
      refine fv_if_lt (tgt := 51) (ft_d o_FT_coldest 20 rfl) rfl rfl (fun c => ?_) (fun c => ?_)
      · have w := w.1 c
        refine fv_aload_n (ft_d o_FT_coldest 28 rfl) rfl rfl ?_
        refine fv_getR (b := 143) (ft_d o_FT_coldest 29 rfl) rfl fl_FT_69 sh_0 rfl ly_0_10 ?_
        refine fv_getR (b := 144) (ft_d o_FT_coldest 30 rfl) rfl fl_FT_224 sh_143 rfl ly_143_0 ?_
        refine fv_iload_n (ft_d o_FT_coldest 31 rfl) rfl rfl ?_
        refine fv_iald (ft_d o_FT_coldest 32 rfl) rfl sh_144 w.1 ?_
        have w := w.2
        generalize en3 : h 144 x3.toNat = n3
        have w := w n3 en3.symm
        refine fv_istore_n (L' := [some (.inr (.inr 0)), some (.inl x1), some (.inl n3), some (.inl x3)]) (ft_d o_FT_coldest 33 rfl) rfl (Nat.le_of_ble_eq_true rfl) rfl ?_
        refine fv_iload_n (ft_d o_FT_coldest 34 rfl) rfl rfl ?_
        refine fv_istore_n (L' := [some (.inr (.inr 0)), some (.inl x3), some (.inl n3), some (.inl x3)]) (ft_d o_FT_coldest 35 rfl) rfl (Nat.le_of_ble_eq_true rfl) rfl ?_
        refine fv_iinc (L' := [some (.inr (.inr 0)), some (.inl x3), some (.inl n3), some (.inl (ft_add x3 1))]) (ft_d o_FT_coldest 36 rfl) rfl rfl (Nat.le_of_ble_eq_true rfl) rfl ?_
        refine fv_goto (pc' := 12) (ft_d o_FT_coldest 37 rfl) rfl ?_
        exact w
      · have w := w.2 c
        refine fv_aload_n (ft_d o_FT_coldest 21 rfl) rfl rfl ?_
        refine fv_getR (b := 143) (ft_d o_FT_coldest 22 rfl) rfl fl_FT_69 sh_0 rfl ly_0_10 ?_
        refine fv_getR (b := 144) (ft_d o_FT_coldest 23 rfl) rfl fl_FT_224 sh_143 rfl ly_143_0 ?_
        refine fv_iload_n (ft_d o_FT_coldest 24 rfl) rfl rfl ?_
        refine fv_iald (ft_d o_FT_coldest 25 rfl) rfl sh_144 w.1 ?_
        have w := w.2
        refine fv_iload_n (ft_d o_FT_coldest 26 rfl) rfl rfl ?_
        refine fv_icmp_ge (tgt := 63) (ft_d o_FT_coldest 27 rfl) rfl rfl (fun c => ?_) (fun c => ?_)
        · have w := w.1 c
          refine fv_iinc (L' := [some (.inr (.inr 0)), some (.inl x1), some (.inl x2), some (.inl (ft_add x3 1))]) (ft_d o_FT_coldest 36 rfl) rfl rfl (Nat.le_of_ble_eq_true rfl) rfl ?_
          refine fv_goto (pc' := 12) (ft_d o_FT_coldest 37 rfl) rfl ?_
          exact w
        · have w := w.2 c
          refine fv_aload_n (ft_d o_FT_coldest 28 rfl) rfl rfl ?_
          refine fv_getR (b := 143) (ft_d o_FT_coldest 29 rfl) rfl fl_FT_69 sh_0 rfl ly_0_10 ?_
          refine fv_getR (b := 144) (ft_d o_FT_coldest 30 rfl) rfl fl_FT_224 sh_143 rfl ly_143_0 ?_
          refine fv_iload_n (ft_d o_FT_coldest 31 rfl) rfl rfl ?_
          refine fv_iald (ft_d o_FT_coldest 32 rfl) rfl sh_144 w.1 ?_
          have w := w.2
          generalize en4 : h 144 x3.toNat = n4
          have w := w n4 en4.symm
          refine fv_istore_n (L' := [some (.inr (.inr 0)), some (.inl x1), some (.inl n4), some (.inl x3)]) (ft_d o_FT_coldest 33 rfl) rfl (Nat.le_of_ble_eq_true rfl) rfl ?_
          refine fv_iload_n (ft_d o_FT_coldest 34 rfl) rfl rfl ?_
          refine fv_istore_n (L' := [some (.inr (.inr 0)), some (.inl x3), some (.inl n4), some (.inl x3)]) (ft_d o_FT_coldest 35 rfl) rfl (Nat.le_of_ble_eq_true rfl) rfl ?_
          refine fv_iinc (L' := [some (.inr (.inr 0)), some (.inl x3), some (.inl n4), some (.inl (ft_add x3 1))]) (ft_d o_FT_coldest 36 rfl) rfl rfl (Nat.le_of_ble_eq_true rfl) rfl ?_
          refine fv_goto (pc' := 12) (ft_d o_FT_coldest 37 rfl) rfl ?_
          exact w
set_option maxRecDepth 20000 in
theorem b_FT_exceptions_0  {h : ftH} {R : Option ftV → ftH → Prop} 
    (w : (∃ R1 : Option ftV → ftH → Prop, ft_C k_FT_settle [.inr (.inr 0), .inl 3] h R1 ∧ ∀ h1 : ftH, R1 none h1 → ft_V k_FT_exceptions 9 [some (.inr (.inr 0)), some (.inl 0), some (.inl 0)] [] h1 R)) : ft_V k_FT_exceptions 0 [some (.inr (.inr 0)), none, none] [] h R := by
  refine fv_aload_n (ft_d o_FT_exceptions 0 rfl) rfl rfl ?_
  refine fv_iconst (ft_d o_FT_exceptions 1 rfl) rfl rfl ?_
  obtain ⟨R1, c2, w⟩ := w
  refine fv_callv (st := []) rfl rfl (ft_mm (pre := [.inl 3, .inr (.inr 0)]) rfl) (ft_rnV (K' := k_FT_settle) (As := [.inl 3]) (ft_d o_FT_exceptions 2 rfl) ml_FT_150 li_FT_settle.1 li_FT_settle.2 lw_FT_settle ⟨rfl, rfl, Nat.le_of_ble_eq_true rfl, Nat.le_of_ble_eq_true rfl⟩ sh_0 rfl rfl rfl rfl (Nat.le_of_ble_eq_true rfl) c2) (fun h1 hw => ?_)
  have w := w h1 hw
  refine fv_iconst (ft_d o_FT_exceptions 3 rfl) rfl rfl ?_
  refine fv_istore_n (L' := [some (.inr (.inr 0)), some (.inl 0), none]) (ft_d o_FT_exceptions 4 rfl) rfl (Nat.le_of_ble_eq_true rfl) rfl ?_
  refine fv_iconst (ft_d o_FT_exceptions 5 rfl) rfl rfl ?_
  refine fv_istore_n (L' := [some (.inr (.inr 0)), some (.inl 0), some (.inl 0)]) (ft_d o_FT_exceptions 6 rfl) rfl (Nat.le_of_ble_eq_true rfl) rfl ?_
  exact w
set_option maxRecDepth 20000 in
theorem b_FT_exceptions_9 {x1 : Int} {x2 : Int} {h : ftH} {R : Option ftV → ftH → Prop} 
    (w : ((h 145 2 ≤ x2 → R (some (.inl x1)) h) ∧ (¬ (h 145 2 ≤ x2) → ((0 ≤ x2 ∧ x2 < 60) ∧ ((¬ (h 147 x2.toNat = 16) → ft_V k_FT_exceptions 9 [some (.inr (.inr 0)), some (.inl x1), some (.inl (ft_add x2 1))] [] h R) ∧ (h 147 x2.toNat = 16 → ft_V k_FT_exceptions 9 [some (.inr (.inr 0)), some (.inl (ft_add x1 1)), some (.inl (ft_add x2 1))] [] h R)))))) : ft_V k_FT_exceptions 9 [some (.inr (.inr 0)), some (.inl x1), some (.inl x2)] [] h R := by
  refine fv_iload_n (ft_d o_FT_exceptions 7 rfl) rfl rfl ?_
  refine fv_aload_n (ft_d o_FT_exceptions 8 rfl) rfl rfl ?_
  refine fv_getR (b := 143) (ft_d o_FT_exceptions 9 rfl) rfl fl_FT_69 sh_0 rfl ly_0_10 ?_
  refine fv_getR (b := 145) (ft_d o_FT_exceptions 10 rfl) rfl fl_FT_231 sh_143 rfl ly_143_1 ?_
  refine fv_getI (ft_d o_FT_exceptions 11 rfl) rfl fl_FT_125 sh_145 rfl ?_
  refine fv_icmp_ge (tgt := 49) (ft_d o_FT_exceptions 12 rfl) rfl rfl (fun c => ?_) (fun c => ?_)
  · have w := w.1 c
    refine fv_iload_n (ft_d o_FT_exceptions 24 rfl) rfl rfl ?_
    exact fv_ireturn (ft_d o_FT_exceptions 25 rfl) rfl w
  · have w := w.2 c
    refine fv_aload_n (ft_d o_FT_exceptions 13 rfl) rfl rfl ?_
    refine fv_getR (b := 143) (ft_d o_FT_exceptions 14 rfl) rfl fl_FT_69 sh_0 rfl ly_0_10 ?_
    refine fv_getR (b := 145) (ft_d o_FT_exceptions 15 rfl) rfl fl_FT_231 sh_143 rfl ly_143_1 ?_
    refine fv_getR (b := 147) (ft_d o_FT_exceptions 16 rfl) rfl fl_FT_179 sh_145 rfl ly_145_1 ?_
    refine fv_iload_n (ft_d o_FT_exceptions 17 rfl) rfl rfl ?_
    refine fv_iald (ft_d o_FT_exceptions 18 rfl) rfl sh_147 w.1 ?_
    have w := w.2
    refine fv_bipush (ft_d o_FT_exceptions 19 rfl) rfl rfl ?_
    refine fv_icmp_ne (tgt := 43) (ft_d o_FT_exceptions 20 rfl) rfl rfl (fun c => ?_) (fun c => ?_)
    · have w := w.1 c
      refine fv_iinc (L' := [some (.inr (.inr 0)), some (.inl x1), some (.inl (ft_add x2 1))]) (ft_d o_FT_exceptions 22 rfl) rfl rfl (Nat.le_of_ble_eq_true rfl) rfl ?_
      refine fv_goto (pc' := 9) (ft_d o_FT_exceptions 23 rfl) rfl ?_
      exact w
    · have w := w.2 c
      refine fv_iinc (L' := [some (.inr (.inr 0)), some (.inl (ft_add x1 1)), some (.inl x2)]) (ft_d o_FT_exceptions 21 rfl) rfl rfl (Nat.le_of_ble_eq_true rfl) rfl ?_
      refine fv_iinc (L' := [some (.inr (.inr 0)), some (.inl (ft_add x1 1)), some (.inl (ft_add x2 1))]) (ft_d o_FT_exceptions 22 rfl) rfl rfl (Nat.le_of_ble_eq_true rfl) rfl ?_
      refine fv_goto (pc' := 9) (ft_d o_FT_exceptions 23 rfl) rfl ?_
      exact w
set_option maxRecDepth 20000 in
theorem b_FT_targetSize_0  {h : ftH} {R : Option ftV → ftH → Prop} 
    (w : (∃ R1 : Option ftV → ftH → Prop, ft_C k_FT_settle [.inr (.inr 0), .inl 3] h R1 ∧ ∀ h1 : ftH, R1 none h1 → R (some (.inl (h1 145 2))) h1)) : ft_V k_FT_targetSize 0 [some (.inr (.inr 0))] [] h R := by
  refine fv_aload_n (ft_d o_FT_targetSize 0 rfl) rfl rfl ?_
  refine fv_iconst (ft_d o_FT_targetSize 1 rfl) rfl rfl ?_
  obtain ⟨R1, c2, w⟩ := w
  refine fv_callv (st := []) rfl rfl (ft_mm (pre := [.inl 3, .inr (.inr 0)]) rfl) (ft_rnV (K' := k_FT_settle) (As := [.inl 3]) (ft_d o_FT_targetSize 2 rfl) ml_FT_150 li_FT_settle.1 li_FT_settle.2 lw_FT_settle ⟨rfl, rfl, Nat.le_of_ble_eq_true rfl, Nat.le_of_ble_eq_true rfl⟩ sh_0 rfl rfl rfl rfl (Nat.le_of_ble_eq_true rfl) c2) (fun h1 hw => ?_)
  have w := w h1 hw
  refine fv_aload_n (ft_d o_FT_targetSize 3 rfl) rfl rfl ?_
  refine fv_getR (b := 143) (ft_d o_FT_targetSize 4 rfl) rfl fl_FT_69 sh_0 rfl ly_0_10 ?_
  refine fv_getR (b := 145) (ft_d o_FT_targetSize 5 rfl) rfl fl_FT_231 sh_143 rfl ly_143_1 ?_
  refine fv_getI (ft_d o_FT_targetSize 6 rfl) rfl fl_FT_125 sh_145 rfl ?_
  exact fv_ireturn (ft_d o_FT_targetSize 7 rfl) rfl w
set_option maxRecDepth 20000 in
theorem b_FT_target_0 {x1 : Int} {x2 : Int} {h : ftH} {R : Option ftV → ftH → Prop} 
    (w : ((x1 < 0 → R (some (.inr (.inl ((-1))))) h) ∧ (¬ (x1 < 0) → ((x2 < 0 → R (some (.inr (.inl ((-1))))) h) ∧ (¬ (x2 < 0) → ((x2 ≤ 2 → (∃ R1 : Option ftV → ftH → Prop, ft_C k_FT_settle [.inr (.inr 0), .inl 3] h R1 ∧ ∀ h1 : ftH, R1 none h1 → ((h1 145 2 ≤ x1 → R (some (.inr (.inl ((-2))))) h1) ∧ (¬ (h1 145 2 ≤ x1) → (((0 ≤ x1 ∧ x1 < ft_ln (145 + 1)) ∧ 0 ≤ h1 (145 + 1) x1.toNat) ∧ R (some (.inr (.inl ((if x2 = 0 then h1 (145 + 1) x1.toNat / 64 else if x2 = 1 then h1 (145 + 1) x1.toNat % 64 else h1 (145 + 2) x1.toNat))))) h1))))) ∧ (¬ (x2 ≤ 2) → R (some (.inr (.inl ((-1))))) h))))))) : ft_V k_FT_target 0 [some (.inr (.inr 0)), some (.inl x1), some (.inl x2)] [] h R := by
  refine fv_iload_n (ft_d o_FT_target 0 rfl) rfl rfl ?_
  refine fv_if_lt (tgt := 13) (ft_d o_FT_target 1 rfl) rfl rfl (fun c => ?_) (fun c => ?_)
  · have w := w.1 c
    refine fv_ldc2 (v := (-1)) (z := (-1)) (ft_d o_FT_target 7 rfl) rfl (ft_gt 624 (by decide +kernel) rfl) rfl ?_
    exact fv_lreturn (ft_d o_FT_target 8 rfl) rfl w
  · have w := w.2 c
    refine fv_iload_n (ft_d o_FT_target 2 rfl) rfl rfl ?_
    refine fv_if_lt (tgt := 13) (ft_d o_FT_target 3 rfl) rfl rfl (fun c => ?_) (fun c => ?_)
    · have w := w.1 c
      refine fv_ldc2 (v := (-1)) (z := (-1)) (ft_d o_FT_target 7 rfl) rfl (ft_gt 624 (by decide +kernel) rfl) rfl ?_
      exact fv_lreturn (ft_d o_FT_target 8 rfl) rfl w
    · have w := w.2 c
      refine fv_iload_n (ft_d o_FT_target 4 rfl) rfl rfl ?_
      refine fv_iconst (ft_d o_FT_target 5 rfl) rfl rfl ?_
      refine fv_icmp_le (tgt := 17) (ft_d o_FT_target 6 rfl) rfl rfl (fun c => ?_) (fun c => ?_)
      · have w := w.1 c
        refine fv_aload_n (ft_d o_FT_target 9 rfl) rfl rfl ?_
        refine fv_iconst (ft_d o_FT_target 10 rfl) rfl rfl ?_
        obtain ⟨R1, c2, w⟩ := w
        refine fv_callv (st := []) rfl rfl (ft_mm (pre := [.inl 3, .inr (.inr 0)]) rfl) (ft_rnV (K' := k_FT_settle) (As := [.inl 3]) (ft_d o_FT_target 11 rfl) ml_FT_150 li_FT_settle.1 li_FT_settle.2 lw_FT_settle ⟨rfl, rfl, Nat.le_of_ble_eq_true rfl, Nat.le_of_ble_eq_true rfl⟩ sh_0 rfl rfl rfl rfl (Nat.le_of_ble_eq_true rfl) c2) (fun h1 hw => ?_)
        have w := w h1 hw
        refine fv_iload_n (ft_d o_FT_target 12 rfl) rfl rfl ?_
        refine fv_aload_n (ft_d o_FT_target 13 rfl) rfl rfl ?_
        refine fv_getR (b := 143) (ft_d o_FT_target 14 rfl) rfl fl_FT_69 sh_0 rfl ly_0_10 ?_
        refine fv_getR (b := 145) (ft_d o_FT_target 15 rfl) rfl fl_FT_231 sh_143 rfl ly_143_1 ?_
        refine fv_getI (ft_d o_FT_target 16 rfl) rfl fl_FT_125 sh_145 rfl ?_
        refine fv_icmp_ge (tgt := 51) (ft_d o_FT_target 17 rfl) rfl rfl (fun c => ?_) (fun c => ?_)
        · have w := w.1 c
          refine fv_ldc2 (v := (-2)) (z := (-2)) (ft_d o_FT_target 25 rfl) rfl (ft_gt 625 (by decide +kernel) rfl) rfl ?_
          exact fv_lreturn (ft_d o_FT_target 26 rfl) rfl w
        · have w := w.2 c
          refine fv_aload_n (ft_d o_FT_target 18 rfl) rfl rfl ?_
          refine fv_getR (b := 143) (ft_d o_FT_target 19 rfl) rfl fl_FT_69 sh_0 rfl ly_0_10 ?_
          refine fv_getR (b := 145) (ft_d o_FT_target 20 rfl) rfl fl_FT_231 sh_143 rfl ly_143_1 ?_
          refine fv_iload_n (ft_d o_FT_target 21 rfl) rfl rfl ?_
          refine fv_iload_n (ft_d o_FT_target 22 rfl) rfl rfl ?_
          refine fv_calllf (st := []) (z := (if x2 = 0 then h1 (145 + 1) x1.toNat / 64 else if x2 = 1 then h1 (145 + 1) x1.toNat % 64 else h1 (145 + 2) x1.toNat)) rfl rfl (ft_mm (pre := [.inl x2, .inl x1, .inr (.inr 145)]) rfl) (ft_rnV (K' := k_PS_tell) (As := [.inl x1, .inl x2]) (ft_d o_FT_target 23 rfl) ml_FT_146 li_PS_tell.1 li_PS_tell.2 lw_PS_tell ⟨rfl, rfl, Nat.le_of_ble_eq_true rfl, Nat.le_of_ble_eq_true rfl⟩ sh_145 rfl rfl rfl rfl (Nat.le_of_ble_eq_true rfl) (c_PS_tell sh_145 w.1)) ?_
          have w := w.2
          refine fv_goto (pc' := 54) (ft_d o_FT_target 24 rfl) rfl ?_
          exact fv_lreturn (ft_d o_FT_target 26 rfl) rfl w
      · have w := w.2 c
        refine fv_ldc2 (v := (-1)) (z := (-1)) (ft_d o_FT_target 7 rfl) rfl (ft_gt 624 (by decide +kernel) rfl) rfl ?_
        exact fv_lreturn (ft_d o_FT_target 8 rfl) rfl w
set_option maxRecDepth 20000 in
theorem b_FT_lostHits_0  {h : ftH} {R : Option ftV → ftH → Prop} 
    (w : (∃ R1 : Option ftV → ftH → Prop, ft_C k_FT_settle [.inr (.inr 0), .inl 3] h R1 ∧ ∀ h1 : ftH, R1 none h1 → (∃ R3 : Option ftV → ftH → Prop, ft_C k_Ch_lostWith [.inr (.inr 143), .inl (h1 1 0)] h1 R3 ∧ ∀ (z5 : Int) (h2 : ftH), ft_in z5 → R3 (some (.inl z5)) h2 → R (some (.inl z5)) h2))) : ft_V k_FT_lostHits 0 [some (.inr (.inr 0))] [] h R := by
  refine fv_aload_n (ft_d o_FT_lostHits 0 rfl) rfl rfl ?_
  refine fv_iconst (ft_d o_FT_lostHits 1 rfl) rfl rfl ?_
  obtain ⟨R1, c2, w⟩ := w
  refine fv_callv (st := []) rfl rfl (ft_mm (pre := [.inl 3, .inr (.inr 0)]) rfl) (ft_rnV (K' := k_FT_settle) (As := [.inl 3]) (ft_d o_FT_lostHits 2 rfl) ml_FT_150 li_FT_settle.1 li_FT_settle.2 lw_FT_settle ⟨rfl, rfl, Nat.le_of_ble_eq_true rfl, Nat.le_of_ble_eq_true rfl⟩ sh_0 rfl rfl rfl rfl (Nat.le_of_ble_eq_true rfl) c2) (fun h1 hw => ?_)
  have w := w h1 hw
  refine fv_aload_n (ft_d o_FT_lostHits 3 rfl) rfl rfl ?_
  refine fv_getR (b := 143) (ft_d o_FT_lostHits 4 rfl) rfl fl_FT_69 sh_0 rfl ly_0_10 ?_
  refine fv_aload_n (ft_d o_FT_lostHits 5 rfl) rfl rfl ?_
  refine fv_getR (b := 1) (ft_d o_FT_lostHits 6 rfl) rfl fl_FT_12 sh_0 rfl ly_0_0 ?_
  refine fv_getI (ft_d o_FT_lostHits 7 rfl) rfl fl_FT_126 sh_1 rfl ?_
  obtain ⟨R3, c4, w⟩ := w
  refine fv_calli (st := []) (Or.inl rfl) rfl (ft_mm (pre := [.inl (h1 1 0), .inr (.inr 143)]) rfl) (ft_rnV (K' := k_Ch_lostWith) (As := [.inl (h1 1 0)]) (ft_d o_FT_lostHits 8 rfl) ml_FT_234 li_Ch_lostWith.1 li_Ch_lostWith.2 lw_Ch_lostWith ⟨rfl, rfl, Nat.le_of_ble_eq_true rfl, Nat.le_of_ble_eq_true rfl⟩ sh_143 rfl rfl rfl rfl (Nat.le_of_ble_eq_true rfl) c4) (fun z5 h2 hz hw => ?_)
  have w := w z5 h2 hz hw
  exact fv_ireturn (ft_d o_FT_lostHits 9 rfl) rfl w
set_option maxRecDepth 20000 in
theorem b_FT_lostHitsWith_0 {x1 : Int} {h : ftH} {R : Option ftV → ftH → Prop} 
    (w : ((x1 < 0 → R (some (.inl ((-1)))) h) ∧ (¬ (x1 < 0) → ((x1 ≤ 60 → (∃ R1 : Option ftV → ftH → Prop, ft_C k_FT_settle [.inr (.inr 0), .inl 3] h R1 ∧ ∀ h1 : ftH, R1 none h1 → (∃ R3 : Option ftV → ftH → Prop, ft_C k_Ch_lostWith [.inr (.inr 143), .inl x1] h1 R3 ∧ ∀ (z5 : Int) (h2 : ftH), ft_in z5 → R3 (some (.inl z5)) h2 → R (some (.inl z5)) h2))) ∧ (¬ (x1 ≤ 60) → R (some (.inl ((-1)))) h))))) : ft_V k_FT_lostHitsWith 0 [some (.inr (.inr 0)), some (.inl x1)] [] h R := by
  refine fv_iload_n (ft_d o_FT_lostHitsWith 0 rfl) rfl rfl ?_
  refine fv_if_lt (tgt := 10) (ft_d o_FT_lostHitsWith 1 rfl) rfl rfl (fun c => ?_) (fun c => ?_)
  · have w := w.1 c
    refine fv_iconst (ft_d o_FT_lostHitsWith 5 rfl) rfl rfl ?_
    exact fv_ireturn (ft_d o_FT_lostHitsWith 6 rfl) rfl w
  · have w := w.2 c
    refine fv_iload_n (ft_d o_FT_lostHitsWith 2 rfl) rfl rfl ?_
    refine fv_bipush (ft_d o_FT_lostHitsWith 3 rfl) rfl rfl ?_
    refine fv_icmp_le (tgt := 12) (ft_d o_FT_lostHitsWith 4 rfl) rfl rfl (fun c => ?_) (fun c => ?_)
    · have w := w.1 c
      refine fv_aload_n (ft_d o_FT_lostHitsWith 7 rfl) rfl rfl ?_
      refine fv_iconst (ft_d o_FT_lostHitsWith 8 rfl) rfl rfl ?_
      obtain ⟨R1, c2, w⟩ := w
      refine fv_callv (st := []) rfl rfl (ft_mm (pre := [.inl 3, .inr (.inr 0)]) rfl) (ft_rnV (K' := k_FT_settle) (As := [.inl 3]) (ft_d o_FT_lostHitsWith 9 rfl) ml_FT_150 li_FT_settle.1 li_FT_settle.2 lw_FT_settle ⟨rfl, rfl, Nat.le_of_ble_eq_true rfl, Nat.le_of_ble_eq_true rfl⟩ sh_0 rfl rfl rfl rfl (Nat.le_of_ble_eq_true rfl) c2) (fun h1 hw => ?_)
      have w := w h1 hw
      refine fv_aload_n (ft_d o_FT_lostHitsWith 10 rfl) rfl rfl ?_
      refine fv_getR (b := 143) (ft_d o_FT_lostHitsWith 11 rfl) rfl fl_FT_69 sh_0 rfl ly_0_10 ?_
      refine fv_iload_n (ft_d o_FT_lostHitsWith 12 rfl) rfl rfl ?_
      obtain ⟨R3, c4, w⟩ := w
      refine fv_calli (st := []) (Or.inl rfl) rfl (ft_mm (pre := [.inl x1, .inr (.inr 143)]) rfl) (ft_rnV (K' := k_Ch_lostWith) (As := [.inl x1]) (ft_d o_FT_lostHitsWith 13 rfl) ml_FT_234 li_Ch_lostWith.1 li_Ch_lostWith.2 lw_Ch_lostWith ⟨rfl, rfl, Nat.le_of_ble_eq_true rfl, Nat.le_of_ble_eq_true rfl⟩ sh_143 rfl rfl rfl rfl (Nat.le_of_ble_eq_true rfl) c4) (fun z5 h2 hz hw => ?_)
      have w := w z5 h2 hz hw
      exact fv_ireturn (ft_d o_FT_lostHitsWith 14 rfl) rfl w
    · have w := w.2 c
      refine fv_iconst (ft_d o_FT_lostHitsWith 5 rfl) rfl rfl ?_
      exact fv_ireturn (ft_d o_FT_lostHitsWith 6 rfl) rfl w
set_option maxRecDepth 20000 in
theorem b_FT_enough_0  {h : ftH} {R : Option ftV → ftH → Prop} 
    (w : (∃ R1 : Option ftV → ftH → Prop, ft_C k_FT_settle [.inr (.inr 0), .inl 3] h R1 ∧ ∀ h1 : ftH, R1 none h1 → (∃ R3 : Option ftV → ftH → Prop, ft_C k_Ch_placesWith [.inr (.inr 143), .inl 60] h1 R3 ∧ ∀ (z5 : Int) (h2 : ftH), ft_in z5 → R3 (some (.inl z5)) h2 → R (some (.inl z5)) h2))) : ft_V k_FT_enough 0 [some (.inr (.inr 0))] [] h R := by
  refine fv_aload_n (ft_d o_FT_enough 0 rfl) rfl rfl ?_
  refine fv_iconst (ft_d o_FT_enough 1 rfl) rfl rfl ?_
  obtain ⟨R1, c2, w⟩ := w
  refine fv_callv (st := []) rfl rfl (ft_mm (pre := [.inl 3, .inr (.inr 0)]) rfl) (ft_rnV (K' := k_FT_settle) (As := [.inl 3]) (ft_d o_FT_enough 2 rfl) ml_FT_150 li_FT_settle.1 li_FT_settle.2 lw_FT_settle ⟨rfl, rfl, Nat.le_of_ble_eq_true rfl, Nat.le_of_ble_eq_true rfl⟩ sh_0 rfl rfl rfl rfl (Nat.le_of_ble_eq_true rfl) c2) (fun h1 hw => ?_)
  have w := w h1 hw
  refine fv_aload_n (ft_d o_FT_enough 3 rfl) rfl rfl ?_
  refine fv_getR (b := 143) (ft_d o_FT_enough 4 rfl) rfl fl_FT_69 sh_0 rfl ly_0_10 ?_
  refine fv_bipush (ft_d o_FT_enough 5 rfl) rfl rfl ?_
  obtain ⟨R3, c4, w⟩ := w
  refine fv_calli (st := []) (Or.inl rfl) rfl (ft_mm (pre := [.inl 60, .inr (.inr 143)]) rfl) (ft_rnV (K' := k_Ch_placesWith) (As := [.inl 60]) (ft_d o_FT_enough 6 rfl) ml_FT_237 li_Ch_placesWith.1 li_Ch_placesWith.2 lw_Ch_placesWith ⟨rfl, rfl, Nat.le_of_ble_eq_true rfl, Nat.le_of_ble_eq_true rfl⟩ sh_143 rfl rfl rfl rfl (Nat.le_of_ble_eq_true rfl) c4) (fun z5 h2 hz hw => ?_)
  have w := w z5 h2 hz hw
  exact fv_ireturn (ft_d o_FT_enough 7 rfl) rfl w
set_option maxRecDepth 20000 in
theorem b_FT_hardwareSize_0  {h : ftH} {R : Option ftV → ftH → Prop} 
    (w : R (some (.inl (h 5 2))) h) : ft_V k_FT_hardwareSize 0 [some (.inr (.inr 0))] [] h R := by
  refine fv_aload_n (ft_d o_FT_hardwareSize 0 rfl) rfl rfl ?_
  refine fv_getR (b := 1) (ft_d o_FT_hardwareSize 1 rfl) rfl fl_FT_12 sh_0 rfl ly_0_0 ?_
  refine fv_getR (b := 5) (ft_d o_FT_hardwareSize 2 rfl) rfl fl_FT_132 sh_1 rfl ly_1_2 ?_
  refine fv_getI (ft_d o_FT_hardwareSize 3 rfl) rfl fl_FT_125 sh_5 rfl ?_
  exact fv_ireturn (ft_d o_FT_hardwareSize 4 rfl) rfl w
set_option maxRecDepth 20000 in
theorem b_FT_hardware_0 {x1 : Int} {x2 : Int} {h : ftH} {R : Option ftV → ftH → Prop} 
    (w : ((x1 < 0 → R (some (.inr (.inl ((-1))))) h) ∧ (¬ (x1 < 0) → ((x2 < 0 → R (some (.inr (.inl ((-1))))) h) ∧ (¬ (x2 < 0) → ((x2 ≤ 2 → ((h 5 2 ≤ x1 → R (some (.inr (.inl ((-2))))) h) ∧ (¬ (h 5 2 ≤ x1) → (((0 ≤ x1 ∧ x1 < ft_ln (5 + 1)) ∧ 0 ≤ h (5 + 1) x1.toNat) ∧ R (some (.inr (.inl ((if x2 = 0 then h (5 + 1) x1.toNat / 64 else if x2 = 1 then h (5 + 1) x1.toNat % 64 else h (5 + 2) x1.toNat))))) h)))) ∧ (¬ (x2 ≤ 2) → R (some (.inr (.inl ((-1))))) h))))))) : ft_V k_FT_hardware 0 [some (.inr (.inr 0)), some (.inl x1), some (.inl x2)] [] h R := by
  refine fv_iload_n (ft_d o_FT_hardware 0 rfl) rfl rfl ?_
  refine fv_if_lt (tgt := 13) (ft_d o_FT_hardware 1 rfl) rfl rfl (fun c => ?_) (fun c => ?_)
  · have w := w.1 c
    refine fv_ldc2 (v := (-1)) (z := (-1)) (ft_d o_FT_hardware 7 rfl) rfl (ft_gt 624 (by decide +kernel) rfl) rfl ?_
    exact fv_lreturn (ft_d o_FT_hardware 8 rfl) rfl w
  · have w := w.2 c
    refine fv_iload_n (ft_d o_FT_hardware 2 rfl) rfl rfl ?_
    refine fv_if_lt (tgt := 13) (ft_d o_FT_hardware 3 rfl) rfl rfl (fun c => ?_) (fun c => ?_)
    · have w := w.1 c
      refine fv_ldc2 (v := (-1)) (z := (-1)) (ft_d o_FT_hardware 7 rfl) rfl (ft_gt 624 (by decide +kernel) rfl) rfl ?_
      exact fv_lreturn (ft_d o_FT_hardware 8 rfl) rfl w
    · have w := w.2 c
      refine fv_iload_n (ft_d o_FT_hardware 4 rfl) rfl rfl ?_
      refine fv_iconst (ft_d o_FT_hardware 5 rfl) rfl rfl ?_
      refine fv_icmp_le (tgt := 17) (ft_d o_FT_hardware 6 rfl) rfl rfl (fun c => ?_) (fun c => ?_)
      · have w := w.1 c
        refine fv_iload_n (ft_d o_FT_hardware 9 rfl) rfl rfl ?_
        refine fv_aload_n (ft_d o_FT_hardware 10 rfl) rfl rfl ?_
        refine fv_getR (b := 1) (ft_d o_FT_hardware 11 rfl) rfl fl_FT_12 sh_0 rfl ly_0_0 ?_
        refine fv_getR (b := 5) (ft_d o_FT_hardware 12 rfl) rfl fl_FT_132 sh_1 rfl ly_1_2 ?_
        refine fv_getI (ft_d o_FT_hardware 13 rfl) rfl fl_FT_125 sh_5 rfl ?_
        refine fv_icmp_ge (tgt := 46) (ft_d o_FT_hardware 14 rfl) rfl rfl (fun c => ?_) (fun c => ?_)
        · have w := w.1 c
          refine fv_ldc2 (v := (-2)) (z := (-2)) (ft_d o_FT_hardware 22 rfl) rfl (ft_gt 625 (by decide +kernel) rfl) rfl ?_
          exact fv_lreturn (ft_d o_FT_hardware 23 rfl) rfl w
        · have w := w.2 c
          refine fv_aload_n (ft_d o_FT_hardware 15 rfl) rfl rfl ?_
          refine fv_getR (b := 1) (ft_d o_FT_hardware 16 rfl) rfl fl_FT_12 sh_0 rfl ly_0_0 ?_
          refine fv_getR (b := 5) (ft_d o_FT_hardware 17 rfl) rfl fl_FT_132 sh_1 rfl ly_1_2 ?_
          refine fv_iload_n (ft_d o_FT_hardware 18 rfl) rfl rfl ?_
          refine fv_iload_n (ft_d o_FT_hardware 19 rfl) rfl rfl ?_
          refine fv_calllf (st := []) (z := (if x2 = 0 then h (5 + 1) x1.toNat / 64 else if x2 = 1 then h (5 + 1) x1.toNat % 64 else h (5 + 2) x1.toNat)) rfl rfl (ft_mm (pre := [.inl x2, .inl x1, .inr (.inr 5)]) rfl) (ft_rnV (K' := k_PS_tell) (As := [.inl x1, .inl x2]) (ft_d o_FT_hardware 20 rfl) ml_FT_146 li_PS_tell.1 li_PS_tell.2 lw_PS_tell ⟨rfl, rfl, Nat.le_of_ble_eq_true rfl, Nat.le_of_ble_eq_true rfl⟩ sh_5 rfl rfl rfl rfl (Nat.le_of_ble_eq_true rfl) (c_PS_tell sh_5 w.1)) ?_
          have w := w.2
          refine fv_goto (pc' := 49) (ft_d o_FT_hardware 21 rfl) rfl ?_
          exact fv_lreturn (ft_d o_FT_hardware 23 rfl) rfl w
      · have w := w.2 c
        refine fv_ldc2 (v := (-1)) (z := (-1)) (ft_d o_FT_hardware 7 rfl) rfl (ft_gt 624 (by decide +kernel) rfl) rfl ?_
        exact fv_lreturn (ft_d o_FT_hardware 8 rfl) rfl w
set_option maxRecDepth 20000 in
theorem b_FT_action_0 {x1 : Int} {h : ftH} {R : Option ftV → ftH → Prop} 
    (w : (∃ R1 : Option ftV → ftH → Prop, ft_C k_PS_longest [.inr (.inr 5), .inr (.inl (pUn x1))] h R1 ∧ ∀ (z3 : Int) (h1 : ftH), ft_in z3 → R1 (some (.inl z3)) h1 → ((0 ≤ z3 → ((0 ≤ z3 ∧ z3 < 80) ∧ R (some (.inl (h1 7 z3.toNat))) h1)) ∧ (¬ (0 ≤ z3) → R (some (.inl ((-2)))) h1)))) : ft_V k_FT_action 0 [some (.inr (.inr 0)), some (.inl x1), none] [] h R := by
  refine fv_aload_n (ft_d o_FT_action 0 rfl) rfl rfl ?_
  refine fv_getR (b := 1) (ft_d o_FT_action 1 rfl) rfl fl_FT_12 sh_0 rfl ly_0_0 ?_
  refine fv_getR (b := 5) (ft_d o_FT_action 2 rfl) rfl fl_FT_132 sh_1 rfl ly_1_2 ?_
  refine fv_iload_n (ft_d o_FT_action 3 rfl) rfl rfl ?_
  refine fv_i2l (ft_d o_FT_action 4 rfl) rfl ?_
  refine fv_ldc2 (v := 4294967295) (z := 4294967295) (ft_d o_FT_action 5 rfl) rfl (ft_gt 778 (by decide +kernel) rfl) rfl ?_
  refine fv_land32 (ft_d o_FT_action 6 rfl) rfl ?_
  obtain ⟨R1, c2, w⟩ := w
  refine fv_calli (st := []) (Or.inl rfl) rfl (ft_mm (pre := [.inr (.inl (pUn x1)), .inr (.inr 5)]) rfl) (ft_rnV (K' := k_PS_longest) (As := [.inr (.inl (pUn x1))]) (ft_d o_FT_action 7 rfl) ml_FT_195 li_PS_longest.1 li_PS_longest.2 lw_PS_longest ⟨rfl, rfl, Nat.le_of_ble_eq_true rfl, Nat.le_of_ble_eq_true rfl⟩ sh_5 rfl rfl rfl rfl (Nat.le_of_ble_eq_true rfl) c2) (fun z3 h1 hz hw => ?_)
  have w := w z3 h1 hz hw
  refine fv_istore_n (L' := [some (.inr (.inr 0)), some (.inl x1), some (.inl z3)]) (ft_d o_FT_action 8 rfl) rfl (Nat.le_of_ble_eq_true rfl) rfl ?_
  refine fv_iload_n (ft_d o_FT_action 9 rfl) rfl rfl ?_
  refine fv_if_ge (tgt := 26) (ft_d o_FT_action 10 rfl) rfl rfl (fun c => ?_) (fun c => ?_)
  · have w := w.1 c
    refine fv_aload_n (ft_d o_FT_action 13 rfl) rfl rfl ?_
    refine fv_getR (b := 1) (ft_d o_FT_action 14 rfl) rfl fl_FT_12 sh_0 rfl ly_0_0 ?_
    refine fv_getR (b := 5) (ft_d o_FT_action 15 rfl) rfl fl_FT_132 sh_1 rfl ly_1_2 ?_
    refine fv_getR (b := 7) (ft_d o_FT_action 16 rfl) rfl fl_FT_179 sh_5 rfl ly_5_1 ?_
    refine fv_iload_n (ft_d o_FT_action 17 rfl) rfl rfl ?_
    refine fv_iald (ft_d o_FT_action 18 rfl) rfl sh_7 w.1 ?_
    have w := w.2
    exact fv_ireturn (ft_d o_FT_action 19 rfl) rfl w
  · have w := w.2 c
    refine fv_bipush (ft_d o_FT_action 11 rfl) rfl rfl ?_
    refine fv_goto (pc' := 38) (ft_d o_FT_action 12 rfl) rfl ?_
    exact fv_ireturn (ft_d o_FT_action 19 rfl) rfl w
set_option maxRecDepth 20000 in
theorem b_FT_changes_0  {h : ftH} {R : Option ftV → ftH → Prop} 
    (w : (∃ R1 : Option ftV → ftH → Prop, ft_C k_FT_settle [.inr (.inr 0), .inl 4] h R1 ∧ ∀ h1 : ftH, R1 none h1 → R (some (.inl (h1 289 4))) h1)) : ft_V k_FT_changes 0 [some (.inr (.inr 0))] [] h R := by
  refine fv_aload_n (ft_d o_FT_changes 0 rfl) rfl rfl ?_
  refine fv_iconst (ft_d o_FT_changes 1 rfl) rfl rfl ?_
  obtain ⟨R1, c2, w⟩ := w
  refine fv_callv (st := []) rfl rfl (ft_mm (pre := [.inl 4, .inr (.inr 0)]) rfl) (ft_rnV (K' := k_FT_settle) (As := [.inl 4]) (ft_d o_FT_changes 2 rfl) ml_FT_150 li_FT_settle.1 li_FT_settle.2 lw_FT_settle ⟨rfl, rfl, Nat.le_of_ble_eq_true rfl, Nat.le_of_ble_eq_true rfl⟩ sh_0 rfl rfl rfl rfl (Nat.le_of_ble_eq_true rfl) c2) (fun h1 hw => ?_)
  have w := w h1 hw
  refine fv_aload_n (ft_d o_FT_changes 3 rfl) rfl rfl ?_
  refine fv_getR (b := 289) (ft_d o_FT_changes 4 rfl) rfl fl_FT_76 sh_0 rfl ly_0_11 ?_
  refine fv_getI (ft_d o_FT_changes 5 rfl) rfl fl_FT_240 sh_289 rfl ?_
  exact fv_ireturn (ft_d o_FT_changes 6 rfl) rfl w
set_option maxRecDepth 20000 in
theorem b_FT_change_0 {x1 : Int} {x2 : Int} {h : ftH} {R : Option ftV → ftH → Prop} 
    (w : ((x1 < 0 → R (some (.inr (.inl ((-1))))) h) ∧ (¬ (x1 < 0) → ((x2 < 0 → R (some (.inr (.inl ((-1))))) h) ∧ (¬ (x2 < 0) → ((x2 ≤ 3 → (∃ R1 : Option ftV → ftH → Prop, ft_C k_FT_settle [.inr (.inr 0), .inl 4] h R1 ∧ ∀ h1 : ftH, R1 none h1 → ((x1 < h1 289 4 → (((x2 < 0 ∨ 2 < x2) → ((0 ≤ x1 ∧ x1 < 140) ∧ R (some (.inr (.inl (h1 292 x1.toNat)))) h1)) ∧ (x2 = 0 → ((0 ≤ x1 ∧ x1 < 140) ∧ ((0 ≤ (h1 290 x1.toNat)) ∧ R (some (.inr (.inl ((h1 290 x1.toNat) / 64)))) h1))) ∧ (x2 = 1 → ((0 ≤ x1 ∧ x1 < 140) ∧ ((0 ≤ (h1 290 x1.toNat)) ∧ R (some (.inr (.inl ((h1 290 x1.toNat) % 64)))) h1))) ∧ (x2 = 2 → ((0 ≤ x1 ∧ x1 < 140) ∧ R (some (.inr (.inl (h1 291 x1.toNat)))) h1)))) ∧ (¬ (x1 < h1 289 4) → R (some (.inr (.inl ((-2))))) h1)))) ∧ (¬ (x2 ≤ 3) → R (some (.inr (.inl ((-1))))) h))))))) : ft_V k_FT_change 0 [some (.inr (.inr 0)), some (.inl x1), some (.inl x2)] [] h R := by
  refine fv_iload_n (ft_d o_FT_change 0 rfl) rfl rfl ?_
  refine fv_if_lt (tgt := 13) (ft_d o_FT_change 1 rfl) rfl rfl (fun c => ?_) (fun c => ?_)
  · have w := w.1 c
    refine fv_ldc2 (v := (-1)) (z := (-1)) (ft_d o_FT_change 7 rfl) rfl (ft_gt 624 (by decide +kernel) rfl) rfl ?_
    exact fv_lreturn (ft_d o_FT_change 8 rfl) rfl w
  · have w := w.2 c
    refine fv_iload_n (ft_d o_FT_change 2 rfl) rfl rfl ?_
    refine fv_if_lt (tgt := 13) (ft_d o_FT_change 3 rfl) rfl rfl (fun c => ?_) (fun c => ?_)
    · have w := w.1 c
      refine fv_ldc2 (v := (-1)) (z := (-1)) (ft_d o_FT_change 7 rfl) rfl (ft_gt 624 (by decide +kernel) rfl) rfl ?_
      exact fv_lreturn (ft_d o_FT_change 8 rfl) rfl w
    · have w := w.2 c
      refine fv_iload_n (ft_d o_FT_change 4 rfl) rfl rfl ?_
      refine fv_iconst (ft_d o_FT_change 5 rfl) rfl rfl ?_
      refine fv_icmp_le (tgt := 17) (ft_d o_FT_change 6 rfl) rfl rfl (fun c => ?_) (fun c => ?_)
      · have w := w.1 c
        refine fv_aload_n (ft_d o_FT_change 9 rfl) rfl rfl ?_
        refine fv_iconst (ft_d o_FT_change 10 rfl) rfl rfl ?_
        obtain ⟨R1, c2, w⟩ := w
        refine fv_callv (st := []) rfl rfl (ft_mm (pre := [.inl 4, .inr (.inr 0)]) rfl) (ft_rnV (K' := k_FT_settle) (As := [.inl 4]) (ft_d o_FT_change 11 rfl) ml_FT_150 li_FT_settle.1 li_FT_settle.2 lw_FT_settle ⟨rfl, rfl, Nat.le_of_ble_eq_true rfl, Nat.le_of_ble_eq_true rfl⟩ sh_0 rfl rfl rfl rfl (Nat.le_of_ble_eq_true rfl) c2) (fun h1 hw => ?_)
        have w := w h1 hw
        refine fv_iload_n (ft_d o_FT_change 12 rfl) rfl rfl ?_
        refine fv_aload_n (ft_d o_FT_change 13 rfl) rfl rfl ?_
        refine fv_getR (b := 289) (ft_d o_FT_change 14 rfl) rfl fl_FT_76 sh_0 rfl ly_0_11 ?_
        refine fv_getI (ft_d o_FT_change 15 rfl) rfl fl_FT_240 sh_289 rfl ?_
        refine fv_icmp_lt (tgt := 37) (ft_d o_FT_change 16 rfl) rfl rfl (fun c => ?_) (fun c => ?_)
        · have w := w.1 c
          refine fv_iload_n (ft_d o_FT_change 19 rfl) rfl rfl ?_
          rcases (by omega : (x2 < 0 ∨ 2 < x2) ∨ x2 = 0 ∨ x2 = 1 ∨ x2 = 2) with c | c | c | c
          · have w := w.1 c
            refine fv_tswOut (pc' := 102) (ft_d o_FT_change 20 rfl) c rfl ?_
            refine fv_aload_n (ft_d o_FT_change 43 rfl) rfl rfl ?_
            refine fv_getR (b := 289) (ft_d o_FT_change 44 rfl) rfl fl_FT_76 sh_0 rfl ly_0_11 ?_
            refine fv_getR (b := 292) (ft_d o_FT_change 45 rfl) rfl fl_FT_254 sh_289 rfl ly_289_2 ?_
            refine fv_iload_n (ft_d o_FT_change 46 rfl) rfl rfl ?_
            refine fv_iald (ft_d o_FT_change 47 rfl) rfl sh_292 w.1 ?_
            have w := w.2
            refine fv_i2l (ft_d o_FT_change 48 rfl) rfl ?_
            exact fv_lreturn (ft_d o_FT_change 49 rfl) rfl w
          · have w := w.2.1 c
            refine fv_tswIn (pc' := 64) (ft_d o_FT_change 20 rfl) (by omega) (by omega) (by rw [c]; rfl) rfl ?_
            refine fv_aload_n (ft_d o_FT_change 21 rfl) rfl rfl ?_
            refine fv_getR (b := 289) (ft_d o_FT_change 22 rfl) rfl fl_FT_76 sh_0 rfl ly_0_11 ?_
            refine fv_getR (b := 290) (ft_d o_FT_change 23 rfl) rfl fl_FT_241 sh_289 rfl ly_289_0 ?_
            refine fv_iload_n (ft_d o_FT_change 24 rfl) rfl rfl ?_
            refine fv_lald (ft_d o_FT_change 25 rfl) rfl sh_290 w.1 ?_
            have w := w.2
            refine fv_calllf (st := []) (z := (h1 290 x1.toNat) / 64) rfl rfl (ft_mm (pre := [.inr (.inl (h1 290 x1.toNat))]) rfl) (ft_rnS (K' := k_FT_startOf) (As := [.inr (.inl (h1 290 x1.toNat))]) (ft_d o_FT_change 26 rfl) ml_FT_244 lz_FT_startOf rfl lw_FT_startOf ⟨rfl, rfl, Nat.le_of_ble_eq_true rfl, Nat.le_of_ble_eq_true rfl⟩ rfl rfl (Nat.le_of_ble_eq_true rfl) (c_FT_startOf w.1)) ?_
            have w := w.2
            exact fv_lreturn (ft_d o_FT_change 27 rfl) rfl w
          · have w := w.2.2.1 c
            refine fv_tswIn (pc' := 77) (ft_d o_FT_change 20 rfl) (by omega) (by omega) (by rw [c]; rfl) rfl ?_
            refine fv_aload_n (ft_d o_FT_change 28 rfl) rfl rfl ?_
            refine fv_getR (b := 289) (ft_d o_FT_change 29 rfl) rfl fl_FT_76 sh_0 rfl ly_0_11 ?_
            refine fv_getR (b := 290) (ft_d o_FT_change 30 rfl) rfl fl_FT_241 sh_289 rfl ly_289_0 ?_
            refine fv_iload_n (ft_d o_FT_change 31 rfl) rfl rfl ?_
            refine fv_lald (ft_d o_FT_change 32 rfl) rfl sh_290 w.1 ?_
            have w := w.2
            refine fv_callif (st := []) (z := (h1 290 x1.toNat) % 64) (Or.inl rfl) rfl (ft_mm (pre := [.inr (.inl (h1 290 x1.toNat))]) rfl) (ft_rnS (K' := k_FT_lengthOf) (As := [.inr (.inl (h1 290 x1.toNat))]) (ft_d o_FT_change 33 rfl) ml_FT_248 lz_FT_lengthOf rfl lw_FT_lengthOf ⟨rfl, rfl, Nat.le_of_ble_eq_true rfl, Nat.le_of_ble_eq_true rfl⟩ rfl rfl (Nat.le_of_ble_eq_true rfl) (c_FT_lengthOf w.1)) ?_
            have w := w.2
            refine fv_i2l (ft_d o_FT_change 34 rfl) rfl ?_
            exact fv_lreturn (ft_d o_FT_change 35 rfl) rfl w
          · have w := w.2.2.2 c
            refine fv_tswIn (pc' := 91) (ft_d o_FT_change 20 rfl) (by omega) (by omega) (by rw [c]; rfl) rfl ?_
            refine fv_aload_n (ft_d o_FT_change 36 rfl) rfl rfl ?_
            refine fv_getR (b := 289) (ft_d o_FT_change 37 rfl) rfl fl_FT_76 sh_0 rfl ly_0_11 ?_
            refine fv_getR (b := 291) (ft_d o_FT_change 38 rfl) rfl fl_FT_251 sh_289 rfl ly_289_1 ?_
            refine fv_iload_n (ft_d o_FT_change 39 rfl) rfl rfl ?_
            refine fv_iald (ft_d o_FT_change 40 rfl) rfl sh_291 w.1 ?_
            have w := w.2
            refine fv_i2l (ft_d o_FT_change 41 rfl) rfl ?_
            exact fv_lreturn (ft_d o_FT_change 42 rfl) rfl w
        · have w := w.2 c
          refine fv_ldc2 (v := (-2)) (z := (-2)) (ft_d o_FT_change 17 rfl) rfl (ft_gt 625 (by decide +kernel) rfl) rfl ?_
          exact fv_lreturn (ft_d o_FT_change 18 rfl) rfl w
      · have w := w.2 c
        refine fv_ldc2 (v := (-1)) (z := (-1)) (ft_d o_FT_change 7 rfl) rfl (ft_gt 624 (by decide +kernel) rfl) rfl ?_
        exact fv_lreturn (ft_d o_FT_change 8 rfl) rfl w
set_option maxRecDepth 20000 in
theorem b_FT_missed_0  {h : ftH} {R : Option ftV → ftH → Prop} 
    (w : (∃ R1 : Option ftV → ftH → Prop, ft_C k_TL_missedBy [.inr (.inr 8), .inr (.inr 5)] h R1 ∧ ∀ (z3 : Int) (h1 : ftH), ft_in z3 → R1 (some (.inl z3)) h1 → R (some (.inl z3)) h1)) : ft_V k_FT_missed 0 [some (.inr (.inr 0))] [] h R := by
  refine fv_aload_n (ft_d o_FT_missed 0 rfl) rfl rfl ?_
  refine fv_getR (b := 1) (ft_d o_FT_missed 1 rfl) rfl fl_FT_12 sh_0 rfl ly_0_0 ?_
  refine fv_getR (b := 8) (ft_d o_FT_missed 2 rfl) rfl fl_FT_202 sh_1 rfl ly_1_3 ?_
  refine fv_aload_n (ft_d o_FT_missed 3 rfl) rfl rfl ?_
  refine fv_getR (b := 1) (ft_d o_FT_missed 4 rfl) rfl fl_FT_12 sh_0 rfl ly_0_0 ?_
  refine fv_getR (b := 5) (ft_d o_FT_missed 5 rfl) rfl fl_FT_132 sh_1 rfl ly_1_2 ?_
  obtain ⟨R1, c2, w⟩ := w
  refine fv_calli (st := []) (Or.inl rfl) rfl (ft_mm (pre := [.inr (.inr 5), .inr (.inr 8)]) rfl) (ft_rnV (K' := k_TL_missedBy) (As := [.inr (.inr 5)]) (ft_d o_FT_missed 6 rfl) ml_FT_257 li_TL_missedBy.1 li_TL_missedBy.2 lw_TL_missedBy ⟨rfl, rfl, Nat.le_of_ble_eq_true rfl, Nat.le_of_ble_eq_true rfl⟩ sh_8 rfl rfl rfl rfl (Nat.le_of_ble_eq_true rfl) c2) (fun z3 h1 hz hw => ?_)
  have w := w z3 h1 hz hw
  exact fv_ireturn (ft_d o_FT_missed 7 rfl) rfl w
set_option maxRecDepth 20000 in
theorem b_FT_missedAfter_0 {x1 : Int} {h : ftH} {R : Option ftV → ftH → Prop} 
    (w : ((x1 < 0 → R (some (.inl ((-1)))) h) ∧ (¬ (x1 < 0) → ((x1 ≤ 200 → (∃ R1 : Option ftV → ftH → Prop, ft_C k_PS_copyFrom [.inr (.inr 299), .inr (.inr 5)] h R1 ∧ ∀ h1 : ftH, R1 none h1 → ((x1 ≤ 0 → (∃ R3 : Option ftV → ftH → Prop, ft_C k_TL_missedBy [.inr (.inr 8), .inr (.inr 299)] h1 R3 ∧ ∀ (z5 : Int) (h2 : ftH), ft_in z5 → R3 (some (.inl z5)) h2 → R (some (.inl z5)) h2)) ∧ (¬ (x1 ≤ 0) → (∃ R6 : Option ftV → ftH → Prop, ft_C k_FT_settle [.inr (.inr 0), .inl 4] h1 R6 ∧ ∀ h3 : ftH, R6 none h3 → ((h3 289 5 = 0 → (∃ R8 : Option ftV → ftH → Prop, ft_C k_SP_makeChanges [.inr (.inr 289), .inr (.inr 299), .inl x1] h3 R8 ∧ ∀ (z10 : Int) (h4 : ftH), ft_in z10 → R8 (some (.inl z10)) h4 → (∃ R11 : Option ftV → ftH → Prop, ft_C k_TL_missedBy [.inr (.inr 8), .inr (.inr 299)] h4 R11 ∧ ∀ (z13 : Int) (h5 : ftH), ft_in z13 → R11 (some (.inl z13)) h5 → R (some (.inl z13)) h5))) ∧ (¬ (h3 289 5 = 0) → (∀ h6 : ftH, h6 = ft_hs h3 299 2 0 → (∃ R14 : Option ftV → ftH → Prop, ft_C k_SP_makeChanges [.inr (.inr 289), .inr (.inr 299), .inl x1] h6 R14 ∧ ∀ (z16 : Int) (h7 : ftH), ft_in z16 → R14 (some (.inl z16)) h7 → (∃ R17 : Option ftV → ftH → Prop, ft_C k_TL_missedBy [.inr (.inr 8), .inr (.inr 299)] h7 R17 ∧ ∀ (z19 : Int) (h8 : ftH), ft_in z19 → R17 (some (.inl z19)) h8 → R (some (.inl z19)) h8)))))))))) ∧ (¬ (x1 ≤ 200) → R (some (.inl ((-1)))) h))))) : ft_V k_FT_missedAfter 0 [some (.inr (.inr 0)), some (.inl x1)] [] h R := by
  refine fv_iload_n (ft_d o_FT_missedAfter 0 rfl) rfl rfl ?_
  refine fv_if_lt (tgt := 11) (ft_d o_FT_missedAfter 1 rfl) rfl rfl (fun c => ?_) (fun c => ?_)
  · have w := w.1 c
    refine fv_iconst (ft_d o_FT_missedAfter 5 rfl) rfl rfl ?_
    exact fv_ireturn (ft_d o_FT_missedAfter 6 rfl) rfl w
  · have w := w.2 c
    refine fv_iload_n (ft_d o_FT_missedAfter 2 rfl) rfl rfl ?_
    refine fv_sipush (ft_d o_FT_missedAfter 3 rfl) rfl rfl ?_
    refine fv_icmp_le (tgt := 13) (ft_d o_FT_missedAfter 4 rfl) rfl rfl (fun c => ?_) (fun c => ?_)
    · have w := w.1 c
      refine fv_aload_n (ft_d o_FT_missedAfter 7 rfl) rfl rfl ?_
      refine fv_getR (b := 299) (ft_d o_FT_missedAfter 8 rfl) rfl fl_FT_90 sh_0 rfl ly_0_14 ?_
      refine fv_aload_n (ft_d o_FT_missedAfter 9 rfl) rfl rfl ?_
      refine fv_getR (b := 1) (ft_d o_FT_missedAfter 10 rfl) rfl fl_FT_12 sh_0 rfl ly_0_0 ?_
      refine fv_getR (b := 5) (ft_d o_FT_missedAfter 11 rfl) rfl fl_FT_132 sh_1 rfl ly_1_2 ?_
      obtain ⟨R1, c2, w⟩ := w
      refine fv_callv (st := []) rfl rfl (ft_mm (pre := [.inr (.inr 5), .inr (.inr 299)]) rfl) (ft_rnV (K' := k_PS_copyFrom) (As := [.inr (.inr 5)]) (ft_d o_FT_missedAfter 12 rfl) ml_FT_261 li_PS_copyFrom.1 li_PS_copyFrom.2 lw_PS_copyFrom ⟨rfl, rfl, Nat.le_of_ble_eq_true rfl, Nat.le_of_ble_eq_true rfl⟩ sh_299 rfl rfl rfl rfl (Nat.le_of_ble_eq_true rfl) c2) (fun h1 hw => ?_)
      have w := w h1 hw
      refine fv_iload_n (ft_d o_FT_missedAfter 13 rfl) rfl rfl ?_
      refine fv_if_le (tgt := 67) (ft_d o_FT_missedAfter 14 rfl) rfl rfl (fun c => ?_) (fun c => ?_)
      · have w := w.1 c
        refine fv_aload_n (ft_d o_FT_missedAfter 33 rfl) rfl rfl ?_
        refine fv_getR (b := 1) (ft_d o_FT_missedAfter 34 rfl) rfl fl_FT_12 sh_0 rfl ly_0_0 ?_
        refine fv_getR (b := 8) (ft_d o_FT_missedAfter 35 rfl) rfl fl_FT_202 sh_1 rfl ly_1_3 ?_
        refine fv_aload_n (ft_d o_FT_missedAfter 36 rfl) rfl rfl ?_
        refine fv_getR (b := 299) (ft_d o_FT_missedAfter 37 rfl) rfl fl_FT_90 sh_0 rfl ly_0_14 ?_
        obtain ⟨R3, c4, w⟩ := w
        refine fv_calli (st := []) (Or.inl rfl) rfl (ft_mm (pre := [.inr (.inr 299), .inr (.inr 8)]) rfl) (ft_rnV (K' := k_TL_missedBy) (As := [.inr (.inr 299)]) (ft_d o_FT_missedAfter 38 rfl) ml_FT_257 li_TL_missedBy.1 li_TL_missedBy.2 lw_TL_missedBy ⟨rfl, rfl, Nat.le_of_ble_eq_true rfl, Nat.le_of_ble_eq_true rfl⟩ sh_8 rfl rfl rfl rfl (Nat.le_of_ble_eq_true rfl) c4) (fun z5 h2 hz hw => ?_)
        have w := w z5 h2 hz hw
        exact fv_ireturn (ft_d o_FT_missedAfter 39 rfl) rfl w
      · have w := w.2 c
        refine fv_aload_n (ft_d o_FT_missedAfter 15 rfl) rfl rfl ?_
        refine fv_iconst (ft_d o_FT_missedAfter 16 rfl) rfl rfl ?_
        obtain ⟨R6, c7, w⟩ := w
        refine fv_callv (st := []) rfl rfl (ft_mm (pre := [.inl 4, .inr (.inr 0)]) rfl) (ft_rnV (K' := k_FT_settle) (As := [.inl 4]) (ft_d o_FT_missedAfter 17 rfl) ml_FT_150 li_FT_settle.1 li_FT_settle.2 lw_FT_settle ⟨rfl, rfl, Nat.le_of_ble_eq_true rfl, Nat.le_of_ble_eq_true rfl⟩ sh_0 rfl rfl rfl rfl (Nat.le_of_ble_eq_true rfl) c7) (fun h3 hw => ?_)
        have w := w h3 hw
        refine fv_aload_n (ft_d o_FT_missedAfter 18 rfl) rfl rfl ?_
        refine fv_getR (b := 289) (ft_d o_FT_missedAfter 19 rfl) rfl fl_FT_76 sh_0 rfl ly_0_11 ?_
        refine fv_getI (ft_d o_FT_missedAfter 20 rfl) rfl fl_FT_264 sh_289 rfl ?_
        refine fv_if_eq (tgt := 54) (ft_d o_FT_missedAfter 21 rfl) rfl rfl (fun c => ?_) (fun c => ?_)
        · have w := w.1 c
          refine fv_aload_n (ft_d o_FT_missedAfter 26 rfl) rfl rfl ?_
          refine fv_getR (b := 289) (ft_d o_FT_missedAfter 27 rfl) rfl fl_FT_76 sh_0 rfl ly_0_11 ?_
          refine fv_aload_n (ft_d o_FT_missedAfter 28 rfl) rfl rfl ?_
          refine fv_getR (b := 299) (ft_d o_FT_missedAfter 29 rfl) rfl fl_FT_90 sh_0 rfl ly_0_14 ?_
          refine fv_iload_n (ft_d o_FT_missedAfter 30 rfl) rfl rfl ?_
          obtain ⟨R8, c9, w⟩ := w
          refine fv_calli (st := []) (Or.inl rfl) rfl (ft_mm (pre := [.inl x1, .inr (.inr 299), .inr (.inr 289)]) rfl) (ft_rnV (K' := k_SP_makeChanges) (As := [.inr (.inr 299), .inl x1]) (ft_d o_FT_missedAfter 31 rfl) ml_FT_268 li_SP_makeChanges.1 li_SP_makeChanges.2 lw_SP_makeChanges ⟨rfl, rfl, Nat.le_of_ble_eq_true rfl, Nat.le_of_ble_eq_true rfl⟩ sh_289 rfl rfl rfl rfl (Nat.le_of_ble_eq_true rfl) c9) (fun z10 h4 hz hw => ?_)
          have w := w z10 h4 hz hw
          refine fv_pop (ft_d o_FT_missedAfter 32 rfl) rfl rfl ?_
          refine fv_aload_n (ft_d o_FT_missedAfter 33 rfl) rfl rfl ?_
          refine fv_getR (b := 1) (ft_d o_FT_missedAfter 34 rfl) rfl fl_FT_12 sh_0 rfl ly_0_0 ?_
          refine fv_getR (b := 8) (ft_d o_FT_missedAfter 35 rfl) rfl fl_FT_202 sh_1 rfl ly_1_3 ?_
          refine fv_aload_n (ft_d o_FT_missedAfter 36 rfl) rfl rfl ?_
          refine fv_getR (b := 299) (ft_d o_FT_missedAfter 37 rfl) rfl fl_FT_90 sh_0 rfl ly_0_14 ?_
          obtain ⟨R11, c12, w⟩ := w
          refine fv_calli (st := []) (Or.inl rfl) rfl (ft_mm (pre := [.inr (.inr 299), .inr (.inr 8)]) rfl) (ft_rnV (K' := k_TL_missedBy) (As := [.inr (.inr 299)]) (ft_d o_FT_missedAfter 38 rfl) ml_FT_257 li_TL_missedBy.1 li_TL_missedBy.2 lw_TL_missedBy ⟨rfl, rfl, Nat.le_of_ble_eq_true rfl, Nat.le_of_ble_eq_true rfl⟩ sh_8 rfl rfl rfl rfl (Nat.le_of_ble_eq_true rfl) c12) (fun z13 h5 hz hw => ?_)
          have w := w z13 h5 hz hw
          exact fv_ireturn (ft_d o_FT_missedAfter 39 rfl) rfl w
        · have w := w.2 c
          refine fv_aload_n (ft_d o_FT_missedAfter 22 rfl) rfl rfl ?_
          refine fv_getR (b := 299) (ft_d o_FT_missedAfter 23 rfl) rfl fl_FT_90 sh_0 rfl ly_0_14 ?_
          refine fv_iconst (ft_d o_FT_missedAfter 24 rfl) rfl rfl ?_
          refine fv_putI (ft_d o_FT_missedAfter 25 rfl) rfl fl_FT_125 rfl rfl sh_299 rfl ?_
          generalize eh6 : ft_hs h3 299 2 0 = h6
          have w := w h6 eh6.symm
          refine fv_aload_n (ft_d o_FT_missedAfter 26 rfl) rfl rfl ?_
          refine fv_getR (b := 289) (ft_d o_FT_missedAfter 27 rfl) rfl fl_FT_76 sh_0 rfl ly_0_11 ?_
          refine fv_aload_n (ft_d o_FT_missedAfter 28 rfl) rfl rfl ?_
          refine fv_getR (b := 299) (ft_d o_FT_missedAfter 29 rfl) rfl fl_FT_90 sh_0 rfl ly_0_14 ?_
          refine fv_iload_n (ft_d o_FT_missedAfter 30 rfl) rfl rfl ?_
          obtain ⟨R14, c15, w⟩ := w
          refine fv_calli (st := []) (Or.inl rfl) rfl (ft_mm (pre := [.inl x1, .inr (.inr 299), .inr (.inr 289)]) rfl) (ft_rnV (K' := k_SP_makeChanges) (As := [.inr (.inr 299), .inl x1]) (ft_d o_FT_missedAfter 31 rfl) ml_FT_268 li_SP_makeChanges.1 li_SP_makeChanges.2 lw_SP_makeChanges ⟨rfl, rfl, Nat.le_of_ble_eq_true rfl, Nat.le_of_ble_eq_true rfl⟩ sh_289 rfl rfl rfl rfl (Nat.le_of_ble_eq_true rfl) c15) (fun z16 h7 hz hw => ?_)
          have w := w z16 h7 hz hw
          refine fv_pop (ft_d o_FT_missedAfter 32 rfl) rfl rfl ?_
          refine fv_aload_n (ft_d o_FT_missedAfter 33 rfl) rfl rfl ?_
          refine fv_getR (b := 1) (ft_d o_FT_missedAfter 34 rfl) rfl fl_FT_12 sh_0 rfl ly_0_0 ?_
          refine fv_getR (b := 8) (ft_d o_FT_missedAfter 35 rfl) rfl fl_FT_202 sh_1 rfl ly_1_3 ?_
          refine fv_aload_n (ft_d o_FT_missedAfter 36 rfl) rfl rfl ?_
          refine fv_getR (b := 299) (ft_d o_FT_missedAfter 37 rfl) rfl fl_FT_90 sh_0 rfl ly_0_14 ?_
          obtain ⟨R17, c18, w⟩ := w
          refine fv_calli (st := []) (Or.inl rfl) rfl (ft_mm (pre := [.inr (.inr 299), .inr (.inr 8)]) rfl) (ft_rnV (K' := k_TL_missedBy) (As := [.inr (.inr 299)]) (ft_d o_FT_missedAfter 38 rfl) ml_FT_257 li_TL_missedBy.1 li_TL_missedBy.2 lw_TL_missedBy ⟨rfl, rfl, Nat.le_of_ble_eq_true rfl, Nat.le_of_ble_eq_true rfl⟩ sh_8 rfl rfl rfl rfl (Nat.le_of_ble_eq_true rfl) c18) (fun z19 h8 hz hw => ?_)
          have w := w z19 h8 hz hw
          exact fv_ireturn (ft_d o_FT_missedAfter 39 rfl) rfl w
    · have w := w.2 c
      refine fv_iconst (ft_d o_FT_missedAfter 5 rfl) rfl rfl ?_
      exact fv_ireturn (ft_d o_FT_missedAfter 6 rfl) rfl w
set_option maxRecDepth 20000 in
theorem b_FT_sync_0 {x1 : Int} {h : ftH} {R : Option ftV → ftH → Prop} 
    (w : ((x1 < 1 → R (some (.inl ((-1)))) h) ∧ (¬ (x1 < 1) → ((x1 ≤ 200 → (∃ R1 : Option ftV → ftH → Prop, ft_C k_FT_settle [.inr (.inr 0), .inl 4] h R1 ∧ ∀ h1 : ftH, R1 none h1 → ((¬ (h1 289 4 = 0) → (∃ R3 : Option ftV → ftH → Prop, ft_C k_Hi_save [.inr (.inr 23), .inr (.inr 1)] h1 R3 ∧ ∀ h2 : ftH, R3 none h2 → ((h2 289 5 = 0 → (∃ R5 : Option ftV → ftH → Prop, ft_C k_SP_makeChanges [.inr (.inr 289), .inr (.inr 5), .inl x1] h2 R5 ∧ ∀ (z7 : Int) (h3 : ftH), ft_in z7 → R5 (some (.inl z7)) h3 → (∀ h4 : ftH, h4 = ft_hs h3 11 2 (ft_addL (h3 11 2) z7) → (∃ R8 : Option ftV → ftH → Prop, ft_C k_FT_unsettle [.inr (.inr 0), .inl 3] h4 R8 ∧ ∀ h5 : ftH, R8 none h5 → R (some (.inl z7)) h5)))) ∧ (¬ (h2 289 5 = 0) → (∃ R10 : Option ftV → ftH → Prop, ft_C k_St_emptyHardware [.inr (.inr 1)] h2 R10 ∧ ∀ h6 : ftH, R10 none h6 → (∃ R12 : Option ftV → ftH → Prop, ft_C k_SP_makeChanges [.inr (.inr 289), .inr (.inr 5), .inl x1] h6 R12 ∧ ∀ (z14 : Int) (h7 : ftH), ft_in z14 → R12 (some (.inl z14)) h7 → (∀ h8 : ftH, h8 = ft_hs h7 11 2 (ft_addL (h7 11 2) z14) → (∃ R15 : Option ftV → ftH → Prop, ft_C k_FT_unsettle [.inr (.inr 0), .inl 3] h8 R15 ∧ ∀ h9 : ftH, R15 none h9 → R (some (.inl z14)) h9)))))))) ∧ (h1 289 4 = 0 → R (some (.inl ((-2)))) h1)))) ∧ (¬ (x1 ≤ 200) → R (some (.inl ((-1)))) h))))) : ft_V k_FT_sync 0 [some (.inr (.inr 0)), some (.inl x1), none] [] h R := by
  refine fv_iload_n (ft_d o_FT_sync 0 rfl) rfl rfl ?_
  refine fv_iconst (ft_d o_FT_sync 1 rfl) rfl rfl ?_
  refine fv_icmp_lt (tgt := 12) (ft_d o_FT_sync 2 rfl) rfl rfl (fun c => ?_) (fun c => ?_)
  · have w := w.1 c
    refine fv_iconst (ft_d o_FT_sync 6 rfl) rfl rfl ?_
    exact fv_ireturn (ft_d o_FT_sync 7 rfl) rfl w
  · have w := w.2 c
    refine fv_iload_n (ft_d o_FT_sync 3 rfl) rfl rfl ?_
    refine fv_sipush (ft_d o_FT_sync 4 rfl) rfl rfl ?_
    refine fv_icmp_le (tgt := 14) (ft_d o_FT_sync 5 rfl) rfl rfl (fun c => ?_) (fun c => ?_)
    · have w := w.1 c
      refine fv_aload_n (ft_d o_FT_sync 8 rfl) rfl rfl ?_
      refine fv_iconst (ft_d o_FT_sync 9 rfl) rfl rfl ?_
      obtain ⟨R1, c2, w⟩ := w
      refine fv_callv (st := []) rfl rfl (ft_mm (pre := [.inl 4, .inr (.inr 0)]) rfl) (ft_rnV (K' := k_FT_settle) (As := [.inl 4]) (ft_d o_FT_sync 10 rfl) ml_FT_150 li_FT_settle.1 li_FT_settle.2 lw_FT_settle ⟨rfl, rfl, Nat.le_of_ble_eq_true rfl, Nat.le_of_ble_eq_true rfl⟩ sh_0 rfl rfl rfl rfl (Nat.le_of_ble_eq_true rfl) c2) (fun h1 hw => ?_)
      have w := w h1 hw
      refine fv_aload_n (ft_d o_FT_sync 11 rfl) rfl rfl ?_
      refine fv_getR (b := 289) (ft_d o_FT_sync 12 rfl) rfl fl_FT_76 sh_0 rfl ly_0_11 ?_
      refine fv_getI (ft_d o_FT_sync 13 rfl) rfl fl_FT_240 sh_289 rfl ?_
      refine fv_if_ne (tgt := 32) (ft_d o_FT_sync 14 rfl) rfl rfl (fun c => ?_) (fun c => ?_)
      · have w := w.1 c
        refine fv_aload_n (ft_d o_FT_sync 17 rfl) rfl rfl ?_
        refine fv_getR (b := 23) (ft_d o_FT_sync 18 rfl) rfl fl_FT_22 sh_0 rfl ly_0_2 ?_
        refine fv_aload_n (ft_d o_FT_sync 19 rfl) rfl rfl ?_
        refine fv_getR (b := 1) (ft_d o_FT_sync 20 rfl) rfl fl_FT_12 sh_0 rfl ly_0_0 ?_
        obtain ⟨R3, c4, w⟩ := w
        refine fv_callv (st := []) rfl rfl (ft_mm (pre := [.inr (.inr 1), .inr (.inr 23)]) rfl) (ft_rnV (K' := k_Hi_save) (As := [.inr (.inr 1)]) (ft_d o_FT_sync 21 rfl) ml_FT_129 li_Hi_save.1 li_Hi_save.2 lw_Hi_save ⟨rfl, rfl, Nat.le_of_ble_eq_true rfl, Nat.le_of_ble_eq_true rfl⟩ sh_23 rfl rfl rfl rfl (Nat.le_of_ble_eq_true rfl) c4) (fun h2 hw => ?_)
        have w := w h2 hw
        refine fv_aload_n (ft_d o_FT_sync 22 rfl) rfl rfl ?_
        refine fv_getR (b := 289) (ft_d o_FT_sync 23 rfl) rfl fl_FT_76 sh_0 rfl ly_0_11 ?_
        refine fv_getI (ft_d o_FT_sync 24 rfl) rfl fl_FT_264 sh_289 rfl ?_
        refine fv_if_eq (tgt := 60) (ft_d o_FT_sync 25 rfl) rfl rfl (fun c => ?_) (fun c => ?_)
        · have w := w.1 c
          refine fv_aload_n (ft_d o_FT_sync 29 rfl) rfl rfl ?_
          refine fv_getR (b := 289) (ft_d o_FT_sync 30 rfl) rfl fl_FT_76 sh_0 rfl ly_0_11 ?_
          refine fv_aload_n (ft_d o_FT_sync 31 rfl) rfl rfl ?_
          refine fv_getR (b := 1) (ft_d o_FT_sync 32 rfl) rfl fl_FT_12 sh_0 rfl ly_0_0 ?_
          refine fv_getR (b := 5) (ft_d o_FT_sync 33 rfl) rfl fl_FT_132 sh_1 rfl ly_1_2 ?_
          refine fv_iload_n (ft_d o_FT_sync 34 rfl) rfl rfl ?_
          obtain ⟨R5, c6, w⟩ := w
          refine fv_calli (st := []) (Or.inl rfl) rfl (ft_mm (pre := [.inl x1, .inr (.inr 5), .inr (.inr 289)]) rfl) (ft_rnV (K' := k_SP_makeChanges) (As := [.inr (.inr 5), .inl x1]) (ft_d o_FT_sync 35 rfl) ml_FT_268 li_SP_makeChanges.1 li_SP_makeChanges.2 lw_SP_makeChanges ⟨rfl, rfl, Nat.le_of_ble_eq_true rfl, Nat.le_of_ble_eq_true rfl⟩ sh_289 rfl rfl rfl rfl (Nat.le_of_ble_eq_true rfl) c6) (fun z7 h3 hz hw => ?_)
          have w := w z7 h3 hz hw
          refine fv_istore_n (L' := [some (.inr (.inr 0)), some (.inl x1), some (.inl z7)]) (ft_d o_FT_sync 36 rfl) rfl (Nat.le_of_ble_eq_true rfl) rfl ?_
          refine fv_aload_n (ft_d o_FT_sync 37 rfl) rfl rfl ?_
          refine fv_getR (b := 1) (ft_d o_FT_sync 38 rfl) rfl fl_FT_12 sh_0 rfl ly_0_0 ?_
          refine fv_getR (b := 11) (ft_d o_FT_sync 39 rfl) rfl fl_FT_211 sh_1 rfl ly_1_4 ?_
          refine fv_iconst (ft_d o_FT_sync 40 rfl) rfl rfl ?_
          refine fv_dup2 (ft_d o_FT_sync 41 rfl) rfl rfl rfl ?_
          refine fv_laldj (j := 2) (ft_d o_FT_sync 42 rfl) rfl sh_11 ⟨by decide, by decide⟩ rfl ?_
          refine fv_iload_n (ft_d o_FT_sync 43 rfl) rfl rfl ?_
          refine fv_i2l (ft_d o_FT_sync 44 rfl) rfl ?_
          refine fv_ladd (ft_d o_FT_sync 45 rfl) rfl ?_
          refine fv_lastj (j := 2) (ft_d o_FT_sync 46 rfl) rfl sh_11 ⟨by decide, by decide⟩ rfl ?_
          generalize eh4 : ft_hs h3 11 2 (ft_addL (h3 11 2) z7) = h4
          have w := w h4 eh4.symm
          refine fv_aload_n (ft_d o_FT_sync 47 rfl) rfl rfl ?_
          refine fv_iconst (ft_d o_FT_sync 48 rfl) rfl rfl ?_
          obtain ⟨R8, c9, w⟩ := w
          refine fv_callv (st := []) rfl rfl (ft_mm (pre := [.inl 3, .inr (.inr 0)]) rfl) (ft_rnV (K' := k_FT_unsettle) (As := [.inl 3]) (ft_d o_FT_sync 49 rfl) ml_FT_119 li_FT_unsettle.1 li_FT_unsettle.2 lw_FT_unsettle ⟨rfl, rfl, Nat.le_of_ble_eq_true rfl, Nat.le_of_ble_eq_true rfl⟩ sh_0 rfl rfl rfl rfl (Nat.le_of_ble_eq_true rfl) c9) (fun h5 hw => ?_)
          have w := w h5 hw
          refine fv_iload_n (ft_d o_FT_sync 50 rfl) rfl rfl ?_
          exact fv_ireturn (ft_d o_FT_sync 51 rfl) rfl w
        · have w := w.2 c
          refine fv_aload_n (ft_d o_FT_sync 26 rfl) rfl rfl ?_
          refine fv_getR (b := 1) (ft_d o_FT_sync 27 rfl) rfl fl_FT_12 sh_0 rfl ly_0_0 ?_
          obtain ⟨R10, c11, w⟩ := w
          refine fv_callv (st := []) rfl rfl (ft_mm (pre := [.inr (.inr 1)]) rfl) (ft_rnV (K' := k_St_emptyHardware) (As := []) (ft_d o_FT_sync 28 rfl) ml_FT_139 li_St_emptyHardware.1 li_St_emptyHardware.2 lw_St_emptyHardware ⟨rfl, rfl, Nat.le_of_ble_eq_true rfl, Nat.le_of_ble_eq_true rfl⟩ sh_1 rfl rfl rfl rfl (Nat.le_of_ble_eq_true rfl) c11) (fun h6 hw => ?_)
          have w := w h6 hw
          refine fv_aload_n (ft_d o_FT_sync 29 rfl) rfl rfl ?_
          refine fv_getR (b := 289) (ft_d o_FT_sync 30 rfl) rfl fl_FT_76 sh_0 rfl ly_0_11 ?_
          refine fv_aload_n (ft_d o_FT_sync 31 rfl) rfl rfl ?_
          refine fv_getR (b := 1) (ft_d o_FT_sync 32 rfl) rfl fl_FT_12 sh_0 rfl ly_0_0 ?_
          refine fv_getR (b := 5) (ft_d o_FT_sync 33 rfl) rfl fl_FT_132 sh_1 rfl ly_1_2 ?_
          refine fv_iload_n (ft_d o_FT_sync 34 rfl) rfl rfl ?_
          obtain ⟨R12, c13, w⟩ := w
          refine fv_calli (st := []) (Or.inl rfl) rfl (ft_mm (pre := [.inl x1, .inr (.inr 5), .inr (.inr 289)]) rfl) (ft_rnV (K' := k_SP_makeChanges) (As := [.inr (.inr 5), .inl x1]) (ft_d o_FT_sync 35 rfl) ml_FT_268 li_SP_makeChanges.1 li_SP_makeChanges.2 lw_SP_makeChanges ⟨rfl, rfl, Nat.le_of_ble_eq_true rfl, Nat.le_of_ble_eq_true rfl⟩ sh_289 rfl rfl rfl rfl (Nat.le_of_ble_eq_true rfl) c13) (fun z14 h7 hz hw => ?_)
          have w := w z14 h7 hz hw
          refine fv_istore_n (L' := [some (.inr (.inr 0)), some (.inl x1), some (.inl z14)]) (ft_d o_FT_sync 36 rfl) rfl (Nat.le_of_ble_eq_true rfl) rfl ?_
          refine fv_aload_n (ft_d o_FT_sync 37 rfl) rfl rfl ?_
          refine fv_getR (b := 1) (ft_d o_FT_sync 38 rfl) rfl fl_FT_12 sh_0 rfl ly_0_0 ?_
          refine fv_getR (b := 11) (ft_d o_FT_sync 39 rfl) rfl fl_FT_211 sh_1 rfl ly_1_4 ?_
          refine fv_iconst (ft_d o_FT_sync 40 rfl) rfl rfl ?_
          refine fv_dup2 (ft_d o_FT_sync 41 rfl) rfl rfl rfl ?_
          refine fv_laldj (j := 2) (ft_d o_FT_sync 42 rfl) rfl sh_11 ⟨by decide, by decide⟩ rfl ?_
          refine fv_iload_n (ft_d o_FT_sync 43 rfl) rfl rfl ?_
          refine fv_i2l (ft_d o_FT_sync 44 rfl) rfl ?_
          refine fv_ladd (ft_d o_FT_sync 45 rfl) rfl ?_
          refine fv_lastj (j := 2) (ft_d o_FT_sync 46 rfl) rfl sh_11 ⟨by decide, by decide⟩ rfl ?_
          generalize eh8 : ft_hs h7 11 2 (ft_addL (h7 11 2) z14) = h8
          have w := w h8 eh8.symm
          refine fv_aload_n (ft_d o_FT_sync 47 rfl) rfl rfl ?_
          refine fv_iconst (ft_d o_FT_sync 48 rfl) rfl rfl ?_
          obtain ⟨R15, c16, w⟩ := w
          refine fv_callv (st := []) rfl rfl (ft_mm (pre := [.inl 3, .inr (.inr 0)]) rfl) (ft_rnV (K' := k_FT_unsettle) (As := [.inl 3]) (ft_d o_FT_sync 49 rfl) ml_FT_119 li_FT_unsettle.1 li_FT_unsettle.2 lw_FT_unsettle ⟨rfl, rfl, Nat.le_of_ble_eq_true rfl, Nat.le_of_ble_eq_true rfl⟩ sh_0 rfl rfl rfl rfl (Nat.le_of_ble_eq_true rfl) c16) (fun h9 hw => ?_)
          have w := w h9 hw
          refine fv_iload_n (ft_d o_FT_sync 50 rfl) rfl rfl ?_
          exact fv_ireturn (ft_d o_FT_sync 51 rfl) rfl w
      · have w := w.2 c
        refine fv_bipush (ft_d o_FT_sync 15 rfl) rfl rfl ?_
        exact fv_ireturn (ft_d o_FT_sync 16 rfl) rfl w
    · have w := w.2 c
      refine fv_iconst (ft_d o_FT_sync 6 rfl) rfl rfl ?_
      exact fv_ireturn (ft_d o_FT_sync 7 rfl) rfl w
set_option maxRecDepth 20000 in
theorem b_FT_clear_0  {h : ftH} {R : Option ftV → ftH → Prop} 
    (w : (∀ n1 : Int, n1 = h 5 2 → ((¬ (n1 = 0) → (∃ R2 : Option ftV → ftH → Prop, ft_C k_Hi_save [.inr (.inr 23), .inr (.inr 1)] h R2 ∧ ∀ h1 : ftH, R2 none h1 → (∃ R4 : Option ftV → ftH → Prop, ft_C k_St_emptyHardware [.inr (.inr 1)] h1 R4 ∧ ∀ h2 : ftH, R4 none h2 → (∃ R6 : Option ftV → ftH → Prop, ft_C k_FT_unsettle [.inr (.inr 0), .inl 3] h2 R6 ∧ ∀ h3 : ftH, R6 none h3 → R (some (.inl n1)) h3)))) ∧ (n1 = 0 → R (some (.inl ((-2)))) h)))) : ft_V k_FT_clear 0 [some (.inr (.inr 0)), none] [] h R := by
  refine fv_aload_n (ft_d o_FT_clear 0 rfl) rfl rfl ?_
  refine fv_getR (b := 1) (ft_d o_FT_clear 1 rfl) rfl fl_FT_12 sh_0 rfl ly_0_0 ?_
  refine fv_getR (b := 5) (ft_d o_FT_clear 2 rfl) rfl fl_FT_132 sh_1 rfl ly_1_2 ?_
  refine fv_getI (ft_d o_FT_clear 3 rfl) rfl fl_FT_125 sh_5 rfl ?_
  generalize en1 : h 5 2 = n1
  have w := w n1 en1.symm
  refine fv_istore_n (L' := [some (.inr (.inr 0)), some (.inl n1)]) (ft_d o_FT_clear 4 rfl) rfl (Nat.le_of_ble_eq_true rfl) rfl ?_
  refine fv_iload_n (ft_d o_FT_clear 5 rfl) rfl rfl ?_
  refine fv_if_ne (tgt := 18) (ft_d o_FT_clear 6 rfl) rfl rfl (fun c => ?_) (fun c => ?_)
  · have w := w.1 c
    refine fv_aload_n (ft_d o_FT_clear 9 rfl) rfl rfl ?_
    refine fv_getR (b := 23) (ft_d o_FT_clear 10 rfl) rfl fl_FT_22 sh_0 rfl ly_0_2 ?_
    refine fv_aload_n (ft_d o_FT_clear 11 rfl) rfl rfl ?_
    refine fv_getR (b := 1) (ft_d o_FT_clear 12 rfl) rfl fl_FT_12 sh_0 rfl ly_0_0 ?_
    obtain ⟨R2, c3, w⟩ := w
    refine fv_callv (st := []) rfl rfl (ft_mm (pre := [.inr (.inr 1), .inr (.inr 23)]) rfl) (ft_rnV (K' := k_Hi_save) (As := [.inr (.inr 1)]) (ft_d o_FT_clear 13 rfl) ml_FT_129 li_Hi_save.1 li_Hi_save.2 lw_Hi_save ⟨rfl, rfl, Nat.le_of_ble_eq_true rfl, Nat.le_of_ble_eq_true rfl⟩ sh_23 rfl rfl rfl rfl (Nat.le_of_ble_eq_true rfl) c3) (fun h1 hw => ?_)
    have w := w h1 hw
    refine fv_aload_n (ft_d o_FT_clear 14 rfl) rfl rfl ?_
    refine fv_getR (b := 1) (ft_d o_FT_clear 15 rfl) rfl fl_FT_12 sh_0 rfl ly_0_0 ?_
    obtain ⟨R4, c5, w⟩ := w
    refine fv_callv (st := []) rfl rfl (ft_mm (pre := [.inr (.inr 1)]) rfl) (ft_rnV (K' := k_St_emptyHardware) (As := []) (ft_d o_FT_clear 16 rfl) ml_FT_139 li_St_emptyHardware.1 li_St_emptyHardware.2 lw_St_emptyHardware ⟨rfl, rfl, Nat.le_of_ble_eq_true rfl, Nat.le_of_ble_eq_true rfl⟩ sh_1 rfl rfl rfl rfl (Nat.le_of_ble_eq_true rfl) c5) (fun h2 hw => ?_)
    have w := w h2 hw
    refine fv_aload_n (ft_d o_FT_clear 17 rfl) rfl rfl ?_
    refine fv_iconst (ft_d o_FT_clear 18 rfl) rfl rfl ?_
    obtain ⟨R6, c7, w⟩ := w
    refine fv_callv (st := []) rfl rfl (ft_mm (pre := [.inl 3, .inr (.inr 0)]) rfl) (ft_rnV (K' := k_FT_unsettle) (As := [.inl 3]) (ft_d o_FT_clear 19 rfl) ml_FT_119 li_FT_unsettle.1 li_FT_unsettle.2 lw_FT_unsettle ⟨rfl, rfl, Nat.le_of_ble_eq_true rfl, Nat.le_of_ble_eq_true rfl⟩ sh_0 rfl rfl rfl rfl (Nat.le_of_ble_eq_true rfl) c7) (fun h3 hw => ?_)
    have w := w h3 hw
    refine fv_iload_n (ft_d o_FT_clear 20 rfl) rfl rfl ?_
    exact fv_ireturn (ft_d o_FT_clear 21 rfl) rfl w
  · have w := w.2 c
    refine fv_bipush (ft_d o_FT_clear 7 rfl) rfl rfl ?_
    exact fv_ireturn (ft_d o_FT_clear 8 rfl) rfl w
set_option maxRecDepth 20000 in
theorem b_FT_addresses_0 {x1 : Int} {h : ftH} {R : Option ftV → ftH → Prop} 
    (w : ((x1 < 0 → R (some (.inr (.inl ((-1))))) h) ∧ (¬ (x1 < 0) → ((x1 ≤ 15 → (∃ R1 : Option ftV → ftH → Prop, ft_C k_FT_settle [.inr (.inr 0), .inl 1] h R1 ∧ ∀ h1 : ftH, R1 none h1 → ft_V k_FT_addresses 24 [some (.inr (.inr 0)), some (.inl x1), some (.inr (.inl 0)), none, some (.inl 0)] [] h1 R)) ∧ (¬ (x1 ≤ 15) → R (some (.inr (.inl ((-1))))) h))))) : ft_V k_FT_addresses 0 [some (.inr (.inr 0)), some (.inl x1), none, none, none] [] h R := by
  refine fv_iload_n (ft_d o_FT_addresses 0 rfl) rfl rfl ?_
  refine fv_if_lt (tgt := 10) (ft_d o_FT_addresses 1 rfl) rfl rfl (fun c => ?_) (fun c => ?_)
  · have w := w.1 c
    refine fv_ldc2 (v := (-1)) (z := (-1)) (ft_d o_FT_addresses 5 rfl) rfl (ft_gt 624 (by decide +kernel) rfl) rfl ?_
    exact fv_lreturn (ft_d o_FT_addresses 6 rfl) rfl w
  · have w := w.2 c
    refine fv_iload_n (ft_d o_FT_addresses 2 rfl) rfl rfl ?_
    refine fv_bipush (ft_d o_FT_addresses 3 rfl) rfl rfl ?_
    refine fv_icmp_le (tgt := 14) (ft_d o_FT_addresses 4 rfl) rfl rfl (fun c => ?_) (fun c => ?_)
    · have w := w.1 c
      refine fv_aload_n (ft_d o_FT_addresses 7 rfl) rfl rfl ?_
      refine fv_iconst (ft_d o_FT_addresses 8 rfl) rfl rfl ?_
      obtain ⟨R1, c2, w⟩ := w
      refine fv_callv (st := []) rfl rfl (ft_mm (pre := [.inl 1, .inr (.inr 0)]) rfl) (ft_rnV (K' := k_FT_settle) (As := [.inl 1]) (ft_d o_FT_addresses 9 rfl) ml_FT_150 li_FT_settle.1 li_FT_settle.2 lw_FT_settle ⟨rfl, rfl, Nat.le_of_ble_eq_true rfl, Nat.le_of_ble_eq_true rfl⟩ sh_0 rfl rfl rfl rfl (Nat.le_of_ble_eq_true rfl) c2) (fun h1 hw => ?_)
      have w := w h1 hw
      refine fv_lconst (z := 0) (ft_d o_FT_addresses 10 rfl) rfl rfl ?_
      refine fv_lstore_n (L' := [some (.inr (.inr 0)), some (.inl x1), some (.inr (.inl 0)), none, none]) (ft_d o_FT_addresses 11 rfl) rfl (Nat.le_of_ble_eq_true rfl) rfl ?_
      refine fv_iconst (ft_d o_FT_addresses 12 rfl) rfl rfl ?_
      refine fv_istore (L' := [some (.inr (.inr 0)), some (.inl x1), some (.inr (.inl 0)), none, some (.inl 0)]) (ft_d o_FT_addresses 13 rfl) rfl (Nat.le_of_ble_eq_true rfl) rfl ?_
      exact w
    · have w := w.2 c
      refine fv_ldc2 (v := (-1)) (z := (-1)) (ft_d o_FT_addresses 5 rfl) rfl (ft_gt 624 (by decide +kernel) rfl) rfl ?_
      exact fv_lreturn (ft_d o_FT_addresses 6 rfl) rfl w
set_option maxRecDepth 20000 in
theorem b_FT_addresses_24 {x1 : Int} {x2 : Int} {x4 : Int} {h : ftH} {R : Option ftV → ftH → Prop} 
    (w : ((h 115 5 ≤ x4 → R (some (.inr (.inl x2))) h) ∧ (¬ (h 115 5 ≤ x4) → ((0 ≤ x4 ∧ x4 < 121) ∧ ((¬ (h 121 x4.toNat = x1) → ft_V k_FT_addresses 24 [some (.inr (.inr 0)), some (.inl x1), some (.inr (.inl x2)), none, some (.inl (ft_add x4 1))] [] h R) ∧ (h 121 x4.toNat = x1 → (((0 ≤ x4 ∧ x4 < 1000) ∧ h 115 5 ≤ ft_ln (115 + 5)) ∧ ((0 ≤ x4 ∧ x4 < 121) ∧ (∀ n3 : Int, n3 = ft_addL x2 (ft_subL ((if x4 + 1 < h 115 5 then h (115 + 5) (x4 + 1).toNat else 4294967296)) (h 120 x4.toNat)) → ft_V k_FT_addresses 24 [some (.inr (.inr 0)), some (.inl x1), some (.inr (.inl n3)), none, some (.inl (ft_add x4 1))] [] h R))))))))) : ft_V k_FT_addresses 24 [some (.inr (.inr 0)), some (.inl x1), some (.inr (.inl x2)), none, some (.inl x4)] [] h R := by
  refine fv_iload (ft_d o_FT_addresses 14 rfl) rfl rfl ?_
  refine fv_aload_n (ft_d o_FT_addresses 15 rfl) rfl rfl ?_
  refine fv_getR (b := 115) (ft_d o_FT_addresses 16 rfl) rfl fl_FT_45 sh_0 rfl ly_0_6 ?_
  refine fv_getI (ft_d o_FT_addresses 17 rfl) rfl fl_FT_272 sh_115 rfl ?_
  refine fv_icmp_ge (tgt := 79) (ft_d o_FT_addresses 18 rfl) rfl rfl (fun c => ?_) (fun c => ?_)
  · have w := w.1 c
    refine fv_lload_n (ft_d o_FT_addresses 41 rfl) rfl rfl ?_
    exact fv_lreturn (ft_d o_FT_addresses 42 rfl) rfl w
  · have w := w.2 c
    refine fv_aload_n (ft_d o_FT_addresses 19 rfl) rfl rfl ?_
    refine fv_getR (b := 115) (ft_d o_FT_addresses 20 rfl) rfl fl_FT_45 sh_0 rfl ly_0_6 ?_
    refine fv_getR (b := 121) (ft_d o_FT_addresses 21 rfl) rfl fl_FT_275 sh_115 rfl ly_115_4 ?_
    refine fv_iload (ft_d o_FT_addresses 22 rfl) rfl rfl ?_
    refine fv_iald (ft_d o_FT_addresses 23 rfl) rfl sh_121 w.1 ?_
    have w := w.2
    refine fv_iload_n (ft_d o_FT_addresses 24 rfl) rfl rfl ?_
    refine fv_icmp_ne (tgt := 73) (ft_d o_FT_addresses 25 rfl) rfl rfl (fun c => ?_) (fun c => ?_)
    · have w := w.1 c
      refine fv_iinc (L' := [some (.inr (.inr 0)), some (.inl x1), some (.inr (.inl x2)), none, some (.inl (ft_add x4 1))]) (ft_d o_FT_addresses 39 rfl) rfl rfl (Nat.le_of_ble_eq_true rfl) rfl ?_
      refine fv_goto (pc' := 24) (ft_d o_FT_addresses 40 rfl) rfl ?_
      exact w
    · have w := w.2 c
      refine fv_lload_n (ft_d o_FT_addresses 26 rfl) rfl rfl ?_
      refine fv_aload_n (ft_d o_FT_addresses 27 rfl) rfl rfl ?_
      refine fv_getR (b := 115) (ft_d o_FT_addresses 28 rfl) rfl fl_FT_45 sh_0 rfl ly_0_6 ?_
      refine fv_iload (ft_d o_FT_addresses 29 rfl) rfl rfl ?_
      refine fv_calllf (st := [.inr (.inl x2)]) (z := (if x4 + 1 < h 115 5 then h (115 + 5) (x4 + 1).toNat else 4294967296)) rfl rfl (ft_mm (pre := [.inl x4, .inr (.inr 115)]) rfl) (ft_rnV (K' := k_Cv_runEnd) (As := [.inl x4]) (ft_d o_FT_addresses 30 rfl) ml_FT_278 li_Cv_runEnd.1 li_Cv_runEnd.2 lw_Cv_runEnd ⟨rfl, rfl, Nat.le_of_ble_eq_true rfl, Nat.le_of_ble_eq_true rfl⟩ sh_115 rfl rfl rfl rfl (Nat.le_of_ble_eq_true rfl) (c_Cv_runEnd sh_115 w.1)) ?_
      have w := w.2
      refine fv_aload_n (ft_d o_FT_addresses 31 rfl) rfl rfl ?_
      refine fv_getR (b := 115) (ft_d o_FT_addresses 32 rfl) rfl fl_FT_45 sh_0 rfl ly_0_6 ?_
      refine fv_getR (b := 120) (ft_d o_FT_addresses 33 rfl) rfl fl_FT_282 sh_115 rfl ly_115_3 ?_
      refine fv_iload (ft_d o_FT_addresses 34 rfl) rfl rfl ?_
      refine fv_lald (ft_d o_FT_addresses 35 rfl) rfl sh_120 w.1 ?_
      have w := w.2
      refine fv_lsub (ft_d o_FT_addresses 36 rfl) rfl ?_
      refine fv_ladd (ft_d o_FT_addresses 37 rfl) rfl ?_
      generalize en3 : ft_addL x2 (ft_subL ((if x4 + 1 < h 115 5 then h (115 + 5) (x4 + 1).toNat else 4294967296)) (h 120 x4.toNat)) = n3
      have w := w n3 en3.symm
      refine fv_lstore_n (L' := [some (.inr (.inr 0)), some (.inl x1), some (.inr (.inl n3)), none, some (.inl x4)]) (ft_d o_FT_addresses 38 rfl) rfl (Nat.le_of_ble_eq_true rfl) rfl ?_
      refine fv_iinc (L' := [some (.inr (.inr 0)), some (.inl x1), some (.inr (.inl n3)), none, some (.inl (ft_add x4 1))]) (ft_d o_FT_addresses 39 rfl) rfl rfl (Nat.le_of_ble_eq_true rfl) rfl ?_
      refine fv_goto (pc' := 24) (ft_d o_FT_addresses 40 rfl) rfl ?_
      exact w
set_option maxRecDepth 20000 in
theorem b_FT_hardwareAddresses_0  {h : ftH} {R : Option ftV → ftH → Prop} 
    (w : (∃ R1 : Option ftV → ftH → Prop, ft_C k_Cv_sweep [.inr (.inr 302), .inr (.inr 5)] h R1 ∧ ∀ h1 : ftH, R1 none h1 → ft_V k_FT_hardwareAddresses 18 [some (.inr (.inr 0)), some (.inr (.inl 0)), none, some (.inl 0)] [] h1 R)) : ft_V k_FT_hardwareAddresses 0 [some (.inr (.inr 0)), none, none, none] [] h R := by
  refine fv_aload_n (ft_d o_FT_hardwareAddresses 0 rfl) rfl rfl ?_
  refine fv_getR (b := 302) (ft_d o_FT_hardwareAddresses 1 rfl) rfl fl_FT_93 sh_0 rfl ly_0_15 ?_
  refine fv_aload_n (ft_d o_FT_hardwareAddresses 2 rfl) rfl rfl ?_
  refine fv_getR (b := 1) (ft_d o_FT_hardwareAddresses 3 rfl) rfl fl_FT_12 sh_0 rfl ly_0_0 ?_
  refine fv_getR (b := 5) (ft_d o_FT_hardwareAddresses 4 rfl) rfl fl_FT_132 sh_1 rfl ly_1_2 ?_
  obtain ⟨R1, c2, w⟩ := w
  refine fv_callv (st := []) rfl rfl (ft_mm (pre := [.inr (.inr 5), .inr (.inr 302)]) rfl) (ft_rnV (K' := k_Cv_sweep) (As := [.inr (.inr 5)]) (ft_d o_FT_hardwareAddresses 5 rfl) ml_FT_285 li_Cv_sweep.1 li_Cv_sweep.2 lw_Cv_sweep ⟨rfl, rfl, Nat.le_of_ble_eq_true rfl, Nat.le_of_ble_eq_true rfl⟩ sh_302 rfl rfl rfl rfl (Nat.le_of_ble_eq_true rfl) c2) (fun h1 hw => ?_)
  have w := w h1 hw
  refine fv_lconst (z := 0) (ft_d o_FT_hardwareAddresses 6 rfl) rfl rfl ?_
  refine fv_lstore_n (L' := [some (.inr (.inr 0)), some (.inr (.inl 0)), none, none]) (ft_d o_FT_hardwareAddresses 7 rfl) rfl (Nat.le_of_ble_eq_true rfl) rfl ?_
  refine fv_iconst (ft_d o_FT_hardwareAddresses 8 rfl) rfl rfl ?_
  refine fv_istore_n (L' := [some (.inr (.inr 0)), some (.inr (.inl 0)), none, some (.inl 0)]) (ft_d o_FT_hardwareAddresses 9 rfl) rfl (Nat.le_of_ble_eq_true rfl) rfl ?_
  exact w
set_option maxRecDepth 20000 in
theorem b_FT_hardwareAddresses_18 {x1 : Int} {x3 : Int} {h : ftH} {R : Option ftV → ftH → Prop} 
    (w : ((h 5 2 ≤ x3 → R (some (.inr (.inl x1))) h) ∧ (¬ (h 5 2 ≤ x3) → ((0 ≤ x3 ∧ x3 < 80) ∧ ((h 7 x3.toNat = 16 → ft_V k_FT_hardwareAddresses 18 [some (.inr (.inr 0)), some (.inr (.inl x1)), none, some (.inl (ft_add x3 1))] [] h R) ∧ (¬ (h 7 x3.toNat = 16) → ((0 ≤ x3 ∧ x3 < 80) ∧ (∀ n1 : Int, n1 = ft_addL x1 (h 306 x3.toNat) → ft_V k_FT_hardwareAddresses 18 [some (.inr (.inr 0)), some (.inr (.inl n1)), none, some (.inl (ft_add x3 1))] [] h R)))))))) : ft_V k_FT_hardwareAddresses 18 [some (.inr (.inr 0)), some (.inr (.inl x1)), none, some (.inl x3)] [] h R := by
  refine fv_iload_n (ft_d o_FT_hardwareAddresses 10 rfl) rfl rfl ?_
  refine fv_aload_n (ft_d o_FT_hardwareAddresses 11 rfl) rfl rfl ?_
  refine fv_getR (b := 1) (ft_d o_FT_hardwareAddresses 12 rfl) rfl fl_FT_12 sh_0 rfl ly_0_0 ?_
  refine fv_getR (b := 5) (ft_d o_FT_hardwareAddresses 13 rfl) rfl fl_FT_132 sh_1 rfl ly_1_2 ?_
  refine fv_getI (ft_d o_FT_hardwareAddresses 14 rfl) rfl fl_FT_125 sh_5 rfl ?_
  refine fv_icmp_ge (tgt := 67) (ft_d o_FT_hardwareAddresses 15 rfl) rfl rfl (fun c => ?_) (fun c => ?_)
  · have w := w.1 c
    refine fv_lload_n (ft_d o_FT_hardwareAddresses 34 rfl) rfl rfl ?_
    exact fv_lreturn (ft_d o_FT_hardwareAddresses 35 rfl) rfl w
  · have w := w.2 c
    refine fv_aload_n (ft_d o_FT_hardwareAddresses 16 rfl) rfl rfl ?_
    refine fv_getR (b := 1) (ft_d o_FT_hardwareAddresses 17 rfl) rfl fl_FT_12 sh_0 rfl ly_0_0 ?_
    refine fv_getR (b := 5) (ft_d o_FT_hardwareAddresses 18 rfl) rfl fl_FT_132 sh_1 rfl ly_1_2 ?_
    refine fv_getR (b := 7) (ft_d o_FT_hardwareAddresses 19 rfl) rfl fl_FT_179 sh_5 rfl ly_5_1 ?_
    refine fv_iload_n (ft_d o_FT_hardwareAddresses 20 rfl) rfl rfl ?_
    refine fv_iald (ft_d o_FT_hardwareAddresses 21 rfl) rfl sh_7 w.1 ?_
    have w := w.2
    refine fv_bipush (ft_d o_FT_hardwareAddresses 22 rfl) rfl rfl ?_
    refine fv_icmp_eq (tgt := 61) (ft_d o_FT_hardwareAddresses 23 rfl) rfl rfl (fun c => ?_) (fun c => ?_)
    · have w := w.1 c
      refine fv_iinc (L' := [some (.inr (.inr 0)), some (.inr (.inl x1)), none, some (.inl (ft_add x3 1))]) (ft_d o_FT_hardwareAddresses 32 rfl) rfl rfl (Nat.le_of_ble_eq_true rfl) rfl ?_
      refine fv_goto (pc' := 18) (ft_d o_FT_hardwareAddresses 33 rfl) rfl ?_
      exact w
    · have w := w.2 c
      refine fv_lload_n (ft_d o_FT_hardwareAddresses 24 rfl) rfl rfl ?_
      refine fv_aload_n (ft_d o_FT_hardwareAddresses 25 rfl) rfl rfl ?_
      refine fv_getR (b := 302) (ft_d o_FT_hardwareAddresses 26 rfl) rfl fl_FT_93 sh_0 rfl ly_0_15 ?_
      refine fv_getR (b := 306) (ft_d o_FT_hardwareAddresses 27 rfl) rfl fl_FT_161 sh_302 rfl ly_302_2 ?_
      refine fv_iload_n (ft_d o_FT_hardwareAddresses 28 rfl) rfl rfl ?_
      refine fv_lald (ft_d o_FT_hardwareAddresses 29 rfl) rfl sh_306 w.1 ?_
      have w := w.2
      refine fv_ladd (ft_d o_FT_hardwareAddresses 30 rfl) rfl ?_
      generalize en1 : ft_addL x1 (h 306 x3.toNat) = n1
      have w := w n1 en1.symm
      refine fv_lstore_n (L' := [some (.inr (.inr 0)), some (.inr (.inl n1)), none, some (.inl x3)]) (ft_d o_FT_hardwareAddresses 31 rfl) rfl (Nat.le_of_ble_eq_true rfl) rfl ?_
      refine fv_iinc (L' := [some (.inr (.inr 0)), some (.inr (.inl n1)), none, some (.inl (ft_add x3 1))]) (ft_d o_FT_hardwareAddresses 32 rfl) rfl rfl (Nat.le_of_ble_eq_true rfl) rfl ?_
      refine fv_goto (pc' := 18) (ft_d o_FT_hardwareAddresses 33 rfl) rfl ?_
      exact w
set_option maxRecDepth 20000 in
theorem b_FT_nextOther_0 {x1 : Int} {h : ftH} {R : Option ftV → ftH → Prop} 
    (w : (∃ R1 : Option ftV → ftH → Prop, ft_C k_FT_settle [.inr (.inr 0), .inl 1] h R1 ∧ ∀ h1 : ftH, R1 none h1 → (∀ n3 : Int, n3 = pUn x1 → ft_V k_FT_nextOther 15 [some (.inr (.inr 0)), none, some (.inr (.inl n3)), none, some (.inl 0)] [] h1 R))) : ft_V k_FT_nextOther 0 [some (.inr (.inr 0)), some (.inl x1), none, none, none] [] h R := by
  refine fv_aload_n (ft_d o_FT_nextOther 0 rfl) rfl rfl ?_
  refine fv_iconst (ft_d o_FT_nextOther 1 rfl) rfl rfl ?_
  obtain ⟨R1, c2, w⟩ := w
  refine fv_callv (st := []) rfl rfl (ft_mm (pre := [.inl 1, .inr (.inr 0)]) rfl) (ft_rnV (K' := k_FT_settle) (As := [.inl 1]) (ft_d o_FT_nextOther 2 rfl) ml_FT_150 li_FT_settle.1 li_FT_settle.2 lw_FT_settle ⟨rfl, rfl, Nat.le_of_ble_eq_true rfl, Nat.le_of_ble_eq_true rfl⟩ sh_0 rfl rfl rfl rfl (Nat.le_of_ble_eq_true rfl) c2) (fun h1 hw => ?_)
  have w := w h1 hw
  refine fv_iload_n (ft_d o_FT_nextOther 3 rfl) rfl rfl ?_
  refine fv_i2l (ft_d o_FT_nextOther 4 rfl) rfl ?_
  refine fv_ldc2 (v := 4294967295) (z := 4294967295) (ft_d o_FT_nextOther 5 rfl) rfl (ft_gt 778 (by decide +kernel) rfl) rfl ?_
  refine fv_land32 (ft_d o_FT_nextOther 6 rfl) rfl ?_
  generalize en3 : pUn x1 = n3
  have w := w n3 en3.symm
  refine fv_lstore_n (L' := [some (.inr (.inr 0)), some (.inl x1), some (.inr (.inl n3)), none, none]) (ft_d o_FT_nextOther 7 rfl) rfl (Nat.le_of_ble_eq_true rfl) rfl ?_
  refine fv_iconst (ft_d o_FT_nextOther 8 rfl) rfl rfl ?_
  refine fv_istore (L' := [some (.inr (.inr 0)), some (.inl x1), some (.inr (.inl n3)), none, some (.inl 0)]) (ft_d o_FT_nextOther 9 rfl) rfl (Nat.le_of_ble_eq_true rfl) rfl ?_
  refine fv_mask (M := [true, false, true, false, true]) rfl ?_
  exact w
set_option maxRecDepth 20000 in
theorem b_FT_nextOther_15 {x2 : Int} {x4 : Int} {h : ftH} {R : Option ftV → ftH → Prop} 
    (w : ((h 115 5 ≤ x4 → R (some (.inr (.inl ((-2))))) h) ∧ (¬ (h 115 5 ≤ x4) → ((0 ≤ x4 ∧ x4 < 121) ∧ ((h 120 x4.toNat ≤ x2 → ft_V k_FT_nextOther 15 [some (.inr (.inr 0)), none, some (.inr (.inl x2)), none, some (.inl (ft_add x4 1))] [] h R) ∧ (¬ (h 120 x4.toNat ≤ x2) → ((0 ≤ x4 ∧ x4 < 121) ∧ R (some (.inr (.inl (h 120 x4.toNat)))) h))))))) : ft_V k_FT_nextOther 15 [some (.inr (.inr 0)), none, some (.inr (.inl x2)), none, some (.inl x4)] [] h R := by
  refine fv_iload (ft_d o_FT_nextOther 10 rfl) rfl rfl ?_
  refine fv_aload_n (ft_d o_FT_nextOther 11 rfl) rfl rfl ?_
  refine fv_getR (b := 115) (ft_d o_FT_nextOther 12 rfl) rfl fl_FT_45 sh_0 rfl ly_0_6 ?_
  refine fv_getI (ft_d o_FT_nextOther 13 rfl) rfl fl_FT_272 sh_115 rfl ?_
  refine fv_icmp_ge (tgt := 59) (ft_d o_FT_nextOther 14 rfl) rfl rfl (fun c => ?_) (fun c => ?_)
  · have w := w.1 c
    refine fv_ldc2 (v := (-2)) (z := (-2)) (ft_d o_FT_nextOther 31 rfl) rfl (ft_gt 625 (by decide +kernel) rfl) rfl ?_
    exact fv_lreturn (ft_d o_FT_nextOther 32 rfl) rfl w
  · have w := w.2 c
    refine fv_aload_n (ft_d o_FT_nextOther 15 rfl) rfl rfl ?_
    refine fv_getR (b := 115) (ft_d o_FT_nextOther 16 rfl) rfl fl_FT_45 sh_0 rfl ly_0_6 ?_
    refine fv_getR (b := 120) (ft_d o_FT_nextOther 17 rfl) rfl fl_FT_282 sh_115 rfl ly_115_3 ?_
    refine fv_iload (ft_d o_FT_nextOther 18 rfl) rfl rfl ?_
    refine fv_lald (ft_d o_FT_nextOther 19 rfl) rfl sh_120 w.1 ?_
    have w := w.2
    refine fv_lload_n (ft_d o_FT_nextOther 20 rfl) rfl rfl ?_
    refine fv_lcmp_le (tgt := 53) (ft_d o_FT_nextOther 21 rfl) (ft_d o_FT_nextOther 22 rfl) rfl rfl (fun c => ?_) (fun c => ?_)
    · have w := w.1 c
      refine fv_iinc (L' := [some (.inr (.inr 0)), none, some (.inr (.inl x2)), none, some (.inl (ft_add x4 1))]) (ft_d o_FT_nextOther 29 rfl) rfl rfl (Nat.le_of_ble_eq_true rfl) rfl ?_
      refine fv_goto (pc' := 15) (ft_d o_FT_nextOther 30 rfl) rfl ?_
      exact w
    · have w := w.2 c
      refine fv_aload_n (ft_d o_FT_nextOther 23 rfl) rfl rfl ?_
      refine fv_getR (b := 115) (ft_d o_FT_nextOther 24 rfl) rfl fl_FT_45 sh_0 rfl ly_0_6 ?_
      refine fv_getR (b := 120) (ft_d o_FT_nextOther 25 rfl) rfl fl_FT_282 sh_115 rfl ly_115_3 ?_
      refine fv_iload (ft_d o_FT_nextOther 26 rfl) rfl rfl ?_
      refine fv_lald (ft_d o_FT_nextOther 27 rfl) rfl sh_120 w.1 ?_
      have w := w.2
      exact fv_lreturn (ft_d o_FT_nextOther 28 rfl) rfl w
set_option maxRecDepth 20000 in
theorem b_FT_runs_0  {h : ftH} {R : Option ftV → ftH → Prop} 
    (w : (∃ R1 : Option ftV → ftH → Prop, ft_C k_FT_settle [.inr (.inr 0), .inl 1] h R1 ∧ ∀ h1 : ftH, R1 none h1 → R (some (.inl (h1 115 5))) h1)) : ft_V k_FT_runs 0 [some (.inr (.inr 0))] [] h R := by
  refine fv_aload_n (ft_d o_FT_runs 0 rfl) rfl rfl ?_
  refine fv_iconst (ft_d o_FT_runs 1 rfl) rfl rfl ?_
  obtain ⟨R1, c2, w⟩ := w
  refine fv_callv (st := []) rfl rfl (ft_mm (pre := [.inl 1, .inr (.inr 0)]) rfl) (ft_rnV (K' := k_FT_settle) (As := [.inl 1]) (ft_d o_FT_runs 2 rfl) ml_FT_150 li_FT_settle.1 li_FT_settle.2 lw_FT_settle ⟨rfl, rfl, Nat.le_of_ble_eq_true rfl, Nat.le_of_ble_eq_true rfl⟩ sh_0 rfl rfl rfl rfl (Nat.le_of_ble_eq_true rfl) c2) (fun h1 hw => ?_)
  have w := w h1 hw
  refine fv_aload_n (ft_d o_FT_runs 3 rfl) rfl rfl ?_
  refine fv_getR (b := 115) (ft_d o_FT_runs 4 rfl) rfl fl_FT_45 sh_0 rfl ly_0_6 ?_
  refine fv_getI (ft_d o_FT_runs 5 rfl) rfl fl_FT_272 sh_115 rfl ?_
  exact fv_ireturn (ft_d o_FT_runs 6 rfl) rfl w
set_option maxRecDepth 20000 in
theorem b_FT_isRedundant_0 {x1 : Int} {h : ftH} {R : Option ftV → ftH → Prop} 
    (w : ((x1 < 0 → R (some (.inl 0)) h) ∧ (¬ (x1 < 0) → ((x1 < h 2 2 → (∃ R1 : Option ftV → ftH → Prop, ft_C k_FT_settle [.inr (.inr 0), .inl 1] h R1 ∧ ∀ h1 : ftH, R1 none h1 → (∃ R3 : Option ftV → ftH → Prop, ft_C k_FT_changesNoAnswer [.inr (.inr 0), .inl x1] h1 R3 ∧ ∀ (z5 : Int) (h2 : ftH), ft_in z5 → R3 (some (.inl z5)) h2 → ((z5 = 0 ∨ z5 = 1) ∧ R (some (.inl z5)) h2)))) ∧ (¬ (x1 < h 2 2) → R (some (.inl 0)) h))))) : ft_V k_FT_isRedundant 0 [some (.inr (.inr 0)), some (.inl x1)] [] h R := by
  refine fv_iload_n (ft_d o_FT_isRedundant 0 rfl) rfl rfl ?_
  refine fv_if_lt (tgt := 18) (ft_d o_FT_isRedundant 1 rfl) rfl rfl (fun c => ?_) (fun c => ?_)
  · have w := w.1 c
    refine fv_iconst (ft_d o_FT_isRedundant 8 rfl) rfl rfl ?_
    exact fv_zreturn (ft_d o_FT_isRedundant 9 rfl) rfl (Or.inl rfl) w
  · have w := w.2 c
    refine fv_iload_n (ft_d o_FT_isRedundant 2 rfl) rfl rfl ?_
    refine fv_aload_n (ft_d o_FT_isRedundant 3 rfl) rfl rfl ?_
    refine fv_getR (b := 1) (ft_d o_FT_isRedundant 4 rfl) rfl fl_FT_12 sh_0 rfl ly_0_0 ?_
    refine fv_getR (b := 2) (ft_d o_FT_isRedundant 5 rfl) rfl fl_FT_122 sh_1 rfl ly_1_1 ?_
    refine fv_getI (ft_d o_FT_isRedundant 6 rfl) rfl fl_FT_125 sh_2 rfl ?_
    refine fv_icmp_lt (tgt := 20) (ft_d o_FT_isRedundant 7 rfl) rfl rfl (fun c => ?_) (fun c => ?_)
    · have w := w.1 c
      refine fv_aload_n (ft_d o_FT_isRedundant 10 rfl) rfl rfl ?_
      refine fv_iconst (ft_d o_FT_isRedundant 11 rfl) rfl rfl ?_
      obtain ⟨R1, c2, w⟩ := w
      refine fv_callv (st := []) rfl rfl (ft_mm (pre := [.inl 1, .inr (.inr 0)]) rfl) (ft_rnV (K' := k_FT_settle) (As := [.inl 1]) (ft_d o_FT_isRedundant 12 rfl) ml_FT_150 li_FT_settle.1 li_FT_settle.2 lw_FT_settle ⟨rfl, rfl, Nat.le_of_ble_eq_true rfl, Nat.le_of_ble_eq_true rfl⟩ sh_0 rfl rfl rfl rfl (Nat.le_of_ble_eq_true rfl) c2) (fun h1 hw => ?_)
      have w := w h1 hw
      refine fv_aload_n (ft_d o_FT_isRedundant 13 rfl) rfl rfl ?_
      refine fv_iload_n (ft_d o_FT_isRedundant 14 rfl) rfl rfl ?_
      obtain ⟨R3, c4, w⟩ := w
      refine fv_calli (st := []) (Or.inr rfl) rfl (ft_mm (pre := [.inl x1, .inr (.inr 0)]) rfl) (ft_rnV (K' := k_FT_changesNoAnswer) (As := [.inl x1]) (ft_d o_FT_isRedundant 15 rfl) ml_FT_288 li_FT_changesNoAnswer.1 li_FT_changesNoAnswer.2 lw_FT_changesNoAnswer ⟨rfl, rfl, Nat.le_of_ble_eq_true rfl, Nat.le_of_ble_eq_true rfl⟩ sh_0 rfl rfl rfl rfl (Nat.le_of_ble_eq_true rfl) c4) (fun z5 h2 hz hw => ?_)
      have w := w z5 h2 hz hw
      exact fv_zreturn (ft_d o_FT_isRedundant 16 rfl) rfl w.1 w.2
    · have w := w.2 c
      refine fv_iconst (ft_d o_FT_isRedundant 8 rfl) rfl rfl ?_
      exact fv_zreturn (ft_d o_FT_isRedundant 9 rfl) rfl (Or.inl rfl) w
set_option maxRecDepth 20000 in
theorem b_FT_redundant_0  {h : ftH} {R : Option ftV → ftH → Prop} 
    (w : (∃ R1 : Option ftV → ftH → Prop, ft_C k_FT_settle [.inr (.inr 0), .inl 1] h R1 ∧ ∀ h1 : ftH, R1 none h1 → ft_V k_FT_redundant 9 [some (.inr (.inr 0)), some (.inl 0), some (.inl 0)] [] h1 R)) : ft_V k_FT_redundant 0 [some (.inr (.inr 0)), none, none] [] h R := by
  refine fv_aload_n (ft_d o_FT_redundant 0 rfl) rfl rfl ?_
  refine fv_iconst (ft_d o_FT_redundant 1 rfl) rfl rfl ?_
  obtain ⟨R1, c2, w⟩ := w
  refine fv_callv (st := []) rfl rfl (ft_mm (pre := [.inl 1, .inr (.inr 0)]) rfl) (ft_rnV (K' := k_FT_settle) (As := [.inl 1]) (ft_d o_FT_redundant 2 rfl) ml_FT_150 li_FT_settle.1 li_FT_settle.2 lw_FT_settle ⟨rfl, rfl, Nat.le_of_ble_eq_true rfl, Nat.le_of_ble_eq_true rfl⟩ sh_0 rfl rfl rfl rfl (Nat.le_of_ble_eq_true rfl) c2) (fun h1 hw => ?_)
  have w := w h1 hw
  refine fv_iconst (ft_d o_FT_redundant 3 rfl) rfl rfl ?_
  refine fv_istore_n (L' := [some (.inr (.inr 0)), some (.inl 0), none]) (ft_d o_FT_redundant 4 rfl) rfl (Nat.le_of_ble_eq_true rfl) rfl ?_
  refine fv_iconst (ft_d o_FT_redundant 5 rfl) rfl rfl ?_
  refine fv_istore_n (L' := [some (.inr (.inr 0)), some (.inl 0), some (.inl 0)]) (ft_d o_FT_redundant 6 rfl) rfl (Nat.le_of_ble_eq_true rfl) rfl ?_
  exact w
set_option maxRecDepth 20000 in
theorem b_FT_redundant_9 {x1 : Int} {x2 : Int} {h : ftH} {R : Option ftV → ftH → Prop} 
    (w : ((h 2 2 ≤ x2 → R (some (.inl x1)) h) ∧ (¬ (h 2 2 ≤ x2) → (∃ R1 : Option ftV → ftH → Prop, ft_C k_FT_changesNoAnswer [.inr (.inr 0), .inl x2] h R1 ∧ ∀ (z3 : Int) (h1 : ftH), ft_in z3 → R1 (some (.inl z3)) h1 → ((z3 = 0 → ft_V k_FT_redundant 9 [some (.inr (.inr 0)), some (.inl x1), some (.inl (ft_add x2 1))] [] h1 R) ∧ (¬ (z3 = 0) → ft_V k_FT_redundant 9 [some (.inr (.inr 0)), some (.inl (ft_add x1 1)), some (.inl (ft_add x2 1))] [] h1 R)))))) : ft_V k_FT_redundant 9 [some (.inr (.inr 0)), some (.inl x1), some (.inl x2)] [] h R := by
  refine fv_iload_n (ft_d o_FT_redundant 7 rfl) rfl rfl ?_
  refine fv_aload_n (ft_d o_FT_redundant 8 rfl) rfl rfl ?_
  refine fv_getR (b := 1) (ft_d o_FT_redundant 9 rfl) rfl fl_FT_12 sh_0 rfl ly_0_0 ?_
  refine fv_getR (b := 2) (ft_d o_FT_redundant 10 rfl) rfl fl_FT_122 sh_1 rfl ly_1_1 ?_
  refine fv_getI (ft_d o_FT_redundant 11 rfl) rfl fl_FT_125 sh_2 rfl ?_
  refine fv_icmp_ge (tgt := 40) (ft_d o_FT_redundant 12 rfl) rfl rfl (fun c => ?_) (fun c => ?_)
  · have w := w.1 c
    refine fv_iload_n (ft_d o_FT_redundant 20 rfl) rfl rfl ?_
    exact fv_ireturn (ft_d o_FT_redundant 21 rfl) rfl w
  · have w := w.2 c
    refine fv_aload_n (ft_d o_FT_redundant 13 rfl) rfl rfl ?_
    refine fv_iload_n (ft_d o_FT_redundant 14 rfl) rfl rfl ?_
    obtain ⟨R1, c2, w⟩ := w
    refine fv_calli (st := []) (Or.inr rfl) rfl (ft_mm (pre := [.inl x2, .inr (.inr 0)]) rfl) (ft_rnV (K' := k_FT_changesNoAnswer) (As := [.inl x2]) (ft_d o_FT_redundant 15 rfl) ml_FT_288 li_FT_changesNoAnswer.1 li_FT_changesNoAnswer.2 lw_FT_changesNoAnswer ⟨rfl, rfl, Nat.le_of_ble_eq_true rfl, Nat.le_of_ble_eq_true rfl⟩ sh_0 rfl rfl rfl rfl (Nat.le_of_ble_eq_true rfl) c2) (fun z3 h1 hz hw => ?_)
    have w := w z3 h1 hz hw
    refine fv_if_eq (tgt := 34) (ft_d o_FT_redundant 16 rfl) rfl rfl (fun c => ?_) (fun c => ?_)
    · have w := w.1 c
      refine fv_iinc (L' := [some (.inr (.inr 0)), some (.inl x1), some (.inl (ft_add x2 1))]) (ft_d o_FT_redundant 18 rfl) rfl rfl (Nat.le_of_ble_eq_true rfl) rfl ?_
      refine fv_goto (pc' := 9) (ft_d o_FT_redundant 19 rfl) rfl ?_
      exact w
    · have w := w.2 c
      refine fv_iinc (L' := [some (.inr (.inr 0)), some (.inl (ft_add x1 1)), some (.inl x2)]) (ft_d o_FT_redundant 17 rfl) rfl rfl (Nat.le_of_ble_eq_true rfl) rfl ?_
      refine fv_iinc (L' := [some (.inr (.inr 0)), some (.inl (ft_add x1 1)), some (.inl (ft_add x2 1))]) (ft_d o_FT_redundant 18 rfl) rfl rfl (Nat.le_of_ble_eq_true rfl) rfl ?_
      refine fv_goto (pc' := 9) (ft_d o_FT_redundant 19 rfl) rfl ?_
      exact w
set_option maxRecDepth 20000 in
theorem b_FT_nesting_0  {h : ftH} {R : Option ftV → ftH → Prop} 
    (w : (∃ R1 : Option ftV → ftH → Prop, ft_C k_FT_settle [.inr (.inr 0), .inl 1] h R1 ∧ ∀ h1 : ftH, R1 none h1 → R (some (.inl (h1 115 6))) h1)) : ft_V k_FT_nesting 0 [some (.inr (.inr 0))] [] h R := by
  refine fv_aload_n (ft_d o_FT_nesting 0 rfl) rfl rfl ?_
  refine fv_iconst (ft_d o_FT_nesting 1 rfl) rfl rfl ?_
  obtain ⟨R1, c2, w⟩ := w
  refine fv_callv (st := []) rfl rfl (ft_mm (pre := [.inl 1, .inr (.inr 0)]) rfl) (ft_rnV (K' := k_FT_settle) (As := [.inl 1]) (ft_d o_FT_nesting 2 rfl) ml_FT_150 li_FT_settle.1 li_FT_settle.2 lw_FT_settle ⟨rfl, rfl, Nat.le_of_ble_eq_true rfl, Nat.le_of_ble_eq_true rfl⟩ sh_0 rfl rfl rfl rfl (Nat.le_of_ble_eq_true rfl) c2) (fun h1 hw => ?_)
  have w := w h1 hw
  refine fv_aload_n (ft_d o_FT_nesting 3 rfl) rfl rfl ?_
  refine fv_getR (b := 115) (ft_d o_FT_nesting 4 rfl) rfl fl_FT_45 sh_0 rfl ly_0_6 ?_
  refine fv_getI (ft_d o_FT_nesting 5 rfl) rfl fl_FT_291 sh_115 rfl ?_
  exact fv_ireturn (ft_d o_FT_nesting 6 rfl) rfl w
set_option maxRecDepth 20000 in
theorem b_FT_compressedWithout_0 {x1 : Int} {h : ftH} {R : Option ftV → ftH → Prop} 
    (w : ((0 ≤ x1 → ((h 2 2 ≤ x1 → R (some (.inl ((-2)))) h) ∧ (¬ (h 2 2 ≤ x1) → (∃ R1 : Option ftV → ftH → Prop, ft_C k_FT_entriesWithout [.inr (.inr 0), .inl x1] h R1 ∧ ∀ (z3 : Int) (h1 : ftH), ft_in z3 → R1 (some (.inl z3)) h1 → R (some (.inl z3)) h1)))) ∧ (¬ (0 ≤ x1) → R (some (.inl ((-1)))) h))) : ft_V k_FT_compressedWithout 0 [some (.inr (.inr 0)), some (.inl x1)] [] h R := by
  refine fv_iload_n (ft_d o_FT_compressedWithout 0 rfl) rfl rfl ?_
  refine fv_if_ge (tgt := 6) (ft_d o_FT_compressedWithout 1 rfl) rfl rfl (fun c => ?_) (fun c => ?_)
  · have w := w.1 c
    refine fv_iload_n (ft_d o_FT_compressedWithout 4 rfl) rfl rfl ?_
    refine fv_aload_n (ft_d o_FT_compressedWithout 5 rfl) rfl rfl ?_
    refine fv_getR (b := 1) (ft_d o_FT_compressedWithout 6 rfl) rfl fl_FT_12 sh_0 rfl ly_0_0 ?_
    refine fv_getR (b := 2) (ft_d o_FT_compressedWithout 7 rfl) rfl fl_FT_122 sh_1 rfl ly_1_1 ?_
    refine fv_getI (ft_d o_FT_compressedWithout 8 rfl) rfl fl_FT_125 sh_2 rfl ?_
    refine fv_icmp_ge (tgt := 28) (ft_d o_FT_compressedWithout 9 rfl) rfl rfl (fun c => ?_) (fun c => ?_)
    · have w := w.1 c
      refine fv_bipush (ft_d o_FT_compressedWithout 14 rfl) rfl rfl ?_
      exact fv_ireturn (ft_d o_FT_compressedWithout 15 rfl) rfl w
    · have w := w.2 c
      refine fv_aload_n (ft_d o_FT_compressedWithout 10 rfl) rfl rfl ?_
      refine fv_iload_n (ft_d o_FT_compressedWithout 11 rfl) rfl rfl ?_
      obtain ⟨R1, c2, w⟩ := w
      refine fv_calli (st := []) (Or.inl rfl) rfl (ft_mm (pre := [.inl x1, .inr (.inr 0)]) rfl) (ft_rnV (K' := k_FT_entriesWithout) (As := [.inl x1]) (ft_d o_FT_compressedWithout 12 rfl) ml_FT_294 li_FT_entriesWithout.1 li_FT_entriesWithout.2 lw_FT_entriesWithout ⟨rfl, rfl, Nat.le_of_ble_eq_true rfl, Nat.le_of_ble_eq_true rfl⟩ sh_0 rfl rfl rfl rfl (Nat.le_of_ble_eq_true rfl) c2) (fun z3 h1 hz hw => ?_)
      have w := w z3 h1 hz hw
      refine fv_goto (pc' := 30) (ft_d o_FT_compressedWithout 13 rfl) rfl ?_
      exact fv_ireturn (ft_d o_FT_compressedWithout 15 rfl) rfl w
  · have w := w.2 c
    refine fv_iconst (ft_d o_FT_compressedWithout 2 rfl) rfl rfl ?_
    exact fv_ireturn (ft_d o_FT_compressedWithout 3 rfl) rfl w
set_option maxRecDepth 20000 in
theorem b_FT_costliest_0  {h : ftH} {R : Option ftV → ftH → Prop} 
    (w : (∀ n1 : Int, n1 = (-2) → ft_V k_FT_costliest 7 [some (.inr (.inr 0)), some (.inl n1), some (.inl 0), some (.inl 0), none] [] h R)) : ft_V k_FT_costliest 0 [some (.inr (.inr 0)), none, none, none, none] [] h R := by
  refine fv_bipush (ft_d o_FT_costliest 0 rfl) rfl rfl ?_
  generalize en1 : (-2) = n1
  have w := w n1 en1.symm
  refine fv_istore_n (L' := [some (.inr (.inr 0)), some (.inl n1), none, none, none]) (ft_d o_FT_costliest 1 rfl) rfl (Nat.le_of_ble_eq_true rfl) rfl ?_
  refine fv_iconst (ft_d o_FT_costliest 2 rfl) rfl rfl ?_
  refine fv_istore_n (L' := [some (.inr (.inr 0)), some (.inl n1), some (.inl 0), none, none]) (ft_d o_FT_costliest 3 rfl) rfl (Nat.le_of_ble_eq_true rfl) rfl ?_
  refine fv_iconst (ft_d o_FT_costliest 4 rfl) rfl rfl ?_
  refine fv_istore_n (L' := [some (.inr (.inr 0)), some (.inl n1), some (.inl 0), some (.inl 0), none]) (ft_d o_FT_costliest 5 rfl) rfl (Nat.le_of_ble_eq_true rfl) rfl ?_
  exact w
set_option maxRecDepth 20000 in
theorem b_FT_costliest_7 {x1 : Int} {x2 : Int} {x3 : Int} {h : ftH} {R : Option ftV → ftH → Prop} 
    (w : ((h 2 2 ≤ x3 → R (some (.inl x1)) h) ∧ (¬ (h 2 2 ≤ x3) → (∃ R1 : Option ftV → ftH → Prop, ft_C k_FT_entriesWithout [.inr (.inr 0), .inl x3] h R1 ∧ ∀ (z3 : Int) (h1 : ftH), ft_in z3 → R1 (some (.inl z3)) h1 → ((x1 < 0 → ft_V k_FT_costliest 7 [some (.inr (.inr 0)), some (.inl x3), some (.inl z3), some (.inl (ft_add x3 1)), none] [] h1 R) ∧ (¬ (x1 < 0) → ((x2 ≤ z3 → ft_V k_FT_costliest 7 [some (.inr (.inr 0)), some (.inl x1), some (.inl x2), some (.inl (ft_add x3 1)), none] [] h1 R) ∧ (¬ (x2 ≤ z3) → ft_V k_FT_costliest 7 [some (.inr (.inr 0)), some (.inl x3), some (.inl z3), some (.inl (ft_add x3 1)), none] [] h1 R)))))))) : ft_V k_FT_costliest 7 [some (.inr (.inr 0)), some (.inl x1), some (.inl x2), some (.inl x3), none] [] h R := by
  refine fv_iload_n (ft_d o_FT_costliest 6 rfl) rfl rfl ?_
  refine fv_aload_n (ft_d o_FT_costliest 7 rfl) rfl rfl ?_
  refine fv_getR (b := 1) (ft_d o_FT_costliest 8 rfl) rfl fl_FT_12 sh_0 rfl ly_0_0 ?_
  refine fv_getR (b := 2) (ft_d o_FT_costliest 9 rfl) rfl fl_FT_122 sh_1 rfl ly_1_1 ?_
  refine fv_getI (ft_d o_FT_costliest 10 rfl) rfl fl_FT_125 sh_2 rfl ?_
  refine fv_icmp_ge (tgt := 49) (ft_d o_FT_costliest 11 rfl) rfl rfl (fun c => ?_) (fun c => ?_)
  · have w := w.1 c
    refine fv_iload_n (ft_d o_FT_costliest 27 rfl) rfl rfl ?_
    exact fv_ireturn (ft_d o_FT_costliest 28 rfl) rfl w
  · have w := w.2 c
    refine fv_aload_n (ft_d o_FT_costliest 12 rfl) rfl rfl ?_
    refine fv_iload_n (ft_d o_FT_costliest 13 rfl) rfl rfl ?_
    obtain ⟨R1, c2, w⟩ := w
    refine fv_calli (st := []) (Or.inl rfl) rfl (ft_mm (pre := [.inl x3, .inr (.inr 0)]) rfl) (ft_rnV (K' := k_FT_entriesWithout) (As := [.inl x3]) (ft_d o_FT_costliest 14 rfl) ml_FT_294 li_FT_entriesWithout.1 li_FT_entriesWithout.2 lw_FT_entriesWithout ⟨rfl, rfl, Nat.le_of_ble_eq_true rfl, Nat.le_of_ble_eq_true rfl⟩ sh_0 rfl rfl rfl rfl (Nat.le_of_ble_eq_true rfl) c2) (fun z3 h1 hz hw => ?_)
    have w := w z3 h1 hz hw
    refine fv_istore (L' := [some (.inr (.inr 0)), some (.inl x1), some (.inl x2), some (.inl x3), some (.inl z3)]) (ft_d o_FT_costliest 15 rfl) rfl (Nat.le_of_ble_eq_true rfl) rfl ?_
    refine fv_iload_n (ft_d o_FT_costliest 16 rfl) rfl rfl ?_
    refine fv_if_lt (tgt := 38) (ft_d o_FT_costliest 17 rfl) rfl rfl (fun c => ?_) (fun c => ?_)
    · have w := w.1 c
      refine fv_iload (ft_d o_FT_costliest 21 rfl) rfl rfl ?_
      refine fv_istore_n (L' := [some (.inr (.inr 0)), some (.inl x1), some (.inl z3), some (.inl x3), some (.inl z3)]) (ft_d o_FT_costliest 22 rfl) rfl (Nat.le_of_ble_eq_true rfl) rfl ?_
      refine fv_iload_n (ft_d o_FT_costliest 23 rfl) rfl rfl ?_
      refine fv_istore_n (L' := [some (.inr (.inr 0)), some (.inl x3), some (.inl z3), some (.inl x3), some (.inl z3)]) (ft_d o_FT_costliest 24 rfl) rfl (Nat.le_of_ble_eq_true rfl) rfl ?_
      refine fv_iinc (L' := [some (.inr (.inr 0)), some (.inl x3), some (.inl z3), some (.inl (ft_add x3 1)), some (.inl z3)]) (ft_d o_FT_costliest 25 rfl) rfl rfl (Nat.le_of_ble_eq_true rfl) rfl ?_
      refine fv_goto (pc' := 7) (ft_d o_FT_costliest 26 rfl) rfl ?_
      refine fv_mask (M := [true, true, true, true, false]) rfl ?_
      exact w
    · have w := w.2 c
      refine fv_iload (ft_d o_FT_costliest 18 rfl) rfl rfl ?_
      refine fv_iload_n (ft_d o_FT_costliest 19 rfl) rfl rfl ?_
      refine fv_icmp_ge (tgt := 43) (ft_d o_FT_costliest 20 rfl) rfl rfl (fun c => ?_) (fun c => ?_)
      · have w := w.1 c
        refine fv_iinc (L' := [some (.inr (.inr 0)), some (.inl x1), some (.inl x2), some (.inl (ft_add x3 1)), some (.inl z3)]) (ft_d o_FT_costliest 25 rfl) rfl rfl (Nat.le_of_ble_eq_true rfl) rfl ?_
        refine fv_goto (pc' := 7) (ft_d o_FT_costliest 26 rfl) rfl ?_
        refine fv_mask (M := [true, true, true, true, false]) rfl ?_
        exact w
      · have w := w.2 c
        refine fv_iload (ft_d o_FT_costliest 21 rfl) rfl rfl ?_
        refine fv_istore_n (L' := [some (.inr (.inr 0)), some (.inl x1), some (.inl z3), some (.inl x3), some (.inl z3)]) (ft_d o_FT_costliest 22 rfl) rfl (Nat.le_of_ble_eq_true rfl) rfl ?_
        refine fv_iload_n (ft_d o_FT_costliest 23 rfl) rfl rfl ?_
        refine fv_istore_n (L' := [some (.inr (.inr 0)), some (.inl x3), some (.inl z3), some (.inl x3), some (.inl z3)]) (ft_d o_FT_costliest 24 rfl) rfl (Nat.le_of_ble_eq_true rfl) rfl ?_
        refine fv_iinc (L' := [some (.inr (.inr 0)), some (.inl x3), some (.inl z3), some (.inl (ft_add x3 1)), some (.inl z3)]) (ft_d o_FT_costliest 25 rfl) rfl rfl (Nat.le_of_ble_eq_true rfl) rfl ?_
        refine fv_goto (pc' := 7) (ft_d o_FT_costliest 26 rfl) rfl ?_
        refine fv_mask (M := [true, true, true, true, false]) rfl ?_
        exact w
set_option maxRecDepth 20000 in
theorem b_FT_count_0 {x1 : Int} {h : ftH} {R : Option ftV → ftH → Prop} 
    (w : ((x1 < 0 → R (some (.inr (.inl ((-1))))) h) ∧ (¬ (x1 < 0) → ((x1 < 5 → ((0 ≤ x1 ∧ x1 < 5) ∧ R (some (.inr (.inl (h 11 x1.toNat)))) h)) ∧ (¬ (x1 < 5) → R (some (.inr (.inl ((-1))))) h))))) : ft_V k_FT_count 0 [some (.inr (.inr 0)), some (.inl x1)] [] h R := by
  refine fv_iload_n (ft_d o_FT_count 0 rfl) rfl rfl ?_
  refine fv_if_lt (tgt := 9) (ft_d o_FT_count 1 rfl) rfl rfl (fun c => ?_) (fun c => ?_)
  · have w := w.1 c
    refine fv_ldc2 (v := (-1)) (z := (-1)) (ft_d o_FT_count 5 rfl) rfl (ft_gt 624 (by decide +kernel) rfl) rfl ?_
    refine fv_goto (pc' := 24) (ft_d o_FT_count 6 rfl) rfl ?_
    exact fv_lreturn (ft_d o_FT_count 12 rfl) rfl w
  · have w := w.2 c
    refine fv_iload_n (ft_d o_FT_count 2 rfl) rfl rfl ?_
    refine fv_iconst (ft_d o_FT_count 3 rfl) rfl rfl ?_
    refine fv_icmp_lt (tgt := 15) (ft_d o_FT_count 4 rfl) rfl rfl (fun c => ?_) (fun c => ?_)
    · have w := w.1 c
      refine fv_aload_n (ft_d o_FT_count 7 rfl) rfl rfl ?_
      refine fv_getR (b := 1) (ft_d o_FT_count 8 rfl) rfl fl_FT_12 sh_0 rfl ly_0_0 ?_
      refine fv_getR (b := 11) (ft_d o_FT_count 9 rfl) rfl fl_FT_211 sh_1 rfl ly_1_4 ?_
      refine fv_iload_n (ft_d o_FT_count 10 rfl) rfl rfl ?_
      refine fv_lald (ft_d o_FT_count 11 rfl) rfl sh_11 w.1 ?_
      have w := w.2
      exact fv_lreturn (ft_d o_FT_count 12 rfl) rfl w
    · have w := w.2 c
      refine fv_ldc2 (v := (-1)) (z := (-1)) (ft_d o_FT_count 5 rfl) rfl (ft_gt 624 (by decide +kernel) rfl) rfl ?_
      refine fv_goto (pc' := 24) (ft_d o_FT_count 6 rfl) rfl ?_
      exact fv_lreturn (ft_d o_FT_count 12 rfl) rfl w
set_option maxRecDepth 20000 in
theorem b_FT_undo_0  {h : ftH} {R : Option ftV → ftH → Prop} 
    (w : (∃ R1 : Option ftV → ftH → Prop, ft_C k_Hi_restore [.inr (.inr 23), .inr (.inr 1)] h R1 ∧ ∀ (z3 : Int) (h1 : ftH), ft_in z3 → R1 (some (.inl z3)) h1 → ((¬ (z3 = 0) → (∃ R4 : Option ftV → ftH → Prop, ft_C k_FT_unsettle [.inr (.inr 0), .inl 0] h1 R4 ∧ ∀ h2 : ftH, R4 none h2 → R (some (.inl (h2 23 1))) h2)) ∧ (z3 = 0 → R (some (.inl ((-1)))) h1)))) : ft_V k_FT_undo 0 [some (.inr (.inr 0))] [] h R := by
  refine fv_aload_n (ft_d o_FT_undo 0 rfl) rfl rfl ?_
  refine fv_getR (b := 23) (ft_d o_FT_undo 1 rfl) rfl fl_FT_22 sh_0 rfl ly_0_2 ?_
  refine fv_aload_n (ft_d o_FT_undo 2 rfl) rfl rfl ?_
  refine fv_getR (b := 1) (ft_d o_FT_undo 3 rfl) rfl fl_FT_12 sh_0 rfl ly_0_0 ?_
  obtain ⟨R1, c2, w⟩ := w
  refine fv_calli (st := []) (Or.inr rfl) rfl (ft_mm (pre := [.inr (.inr 1), .inr (.inr 23)]) rfl) (ft_rnV (K' := k_Hi_restore) (As := [.inr (.inr 1)]) (ft_d o_FT_undo 4 rfl) ml_FT_297 li_Hi_restore.1 li_Hi_restore.2 lw_Hi_restore ⟨rfl, rfl, Nat.le_of_ble_eq_true rfl, Nat.le_of_ble_eq_true rfl⟩ sh_23 rfl rfl rfl rfl (Nat.le_of_ble_eq_true rfl) c2) (fun z3 h1 hz hw => ?_)
  have w := w z3 h1 hz hw
  refine fv_if_ne (tgt := 16) (ft_d o_FT_undo 5 rfl) rfl rfl (fun c => ?_) (fun c => ?_)
  · have w := w.1 c
    refine fv_aload_n (ft_d o_FT_undo 8 rfl) rfl rfl ?_
    refine fv_iconst (ft_d o_FT_undo 9 rfl) rfl rfl ?_
    obtain ⟨R4, c5, w⟩ := w
    refine fv_callv (st := []) rfl rfl (ft_mm (pre := [.inl 0, .inr (.inr 0)]) rfl) (ft_rnV (K' := k_FT_unsettle) (As := [.inl 0]) (ft_d o_FT_undo 10 rfl) ml_FT_119 li_FT_unsettle.1 li_FT_unsettle.2 lw_FT_unsettle ⟨rfl, rfl, Nat.le_of_ble_eq_true rfl, Nat.le_of_ble_eq_true rfl⟩ sh_0 rfl rfl rfl rfl (Nat.le_of_ble_eq_true rfl) c5) (fun h2 hw => ?_)
    have w := w h2 hw
    refine fv_aload_n (ft_d o_FT_undo 11 rfl) rfl rfl ?_
    refine fv_getR (b := 23) (ft_d o_FT_undo 12 rfl) rfl fl_FT_22 sh_0 rfl ly_0_2 ?_
    refine fv_getI (ft_d o_FT_undo 13 rfl) rfl fl_FT_300 sh_23 rfl ?_
    exact fv_ireturn (ft_d o_FT_undo 14 rfl) rfl w
  · have w := w.2 c
    refine fv_iconst (ft_d o_FT_undo 6 rfl) rfl rfl ?_
    exact fv_ireturn (ft_d o_FT_undo 7 rfl) rfl w
set_option maxRecDepth 20000 in
theorem b_FT_reportLength_0 {x1 : Int} {h : ftH} {R : Option ftV → ftH → Prop} 
    (w : ((x1 < 0 → R (some (.inl ((-1)))) h) ∧ (¬ (x1 < 0) → ((x1 ≤ 4 → (∃ R1 : Option ftV → ftH → Prop, ft_C k_FT_writeReport [.inr (.inr 0), .inl x1] h R1 ∧ ∀ h1 : ftH, R1 none h1 → R (some (.inl (h1 294 1))) h1)) ∧ (¬ (x1 ≤ 4) → R (some (.inl ((-1)))) h))))) : ft_V k_FT_reportLength 0 [some (.inr (.inr 0)), some (.inl x1)] [] h R := by
  refine fv_iload_n (ft_d o_FT_reportLength 0 rfl) rfl rfl ?_
  refine fv_if_lt (tgt := 9) (ft_d o_FT_reportLength 1 rfl) rfl rfl (fun c => ?_) (fun c => ?_)
  · have w := w.1 c
    refine fv_iconst (ft_d o_FT_reportLength 5 rfl) rfl rfl ?_
    exact fv_ireturn (ft_d o_FT_reportLength 6 rfl) rfl w
  · have w := w.2 c
    refine fv_iload_n (ft_d o_FT_reportLength 2 rfl) rfl rfl ?_
    refine fv_iconst (ft_d o_FT_reportLength 3 rfl) rfl rfl ?_
    refine fv_icmp_le (tgt := 11) (ft_d o_FT_reportLength 4 rfl) rfl rfl (fun c => ?_) (fun c => ?_)
    · have w := w.1 c
      refine fv_aload_n (ft_d o_FT_reportLength 7 rfl) rfl rfl ?_
      refine fv_iload_n (ft_d o_FT_reportLength 8 rfl) rfl rfl ?_
      obtain ⟨R1, c2, w⟩ := w
      refine fv_callv (st := []) rfl rfl (ft_mm (pre := [.inl x1, .inr (.inr 0)]) rfl) (ft_rnV (K' := k_FT_writeReport) (As := [.inl x1]) (ft_d o_FT_reportLength 9 rfl) ml_FT_301 li_FT_writeReport.1 li_FT_writeReport.2 lw_FT_writeReport ⟨rfl, rfl, Nat.le_of_ble_eq_true rfl, Nat.le_of_ble_eq_true rfl⟩ sh_0 rfl rfl rfl rfl (Nat.le_of_ble_eq_true rfl) c2) (fun h1 hw => ?_)
      have w := w h1 hw
      refine fv_aload_n (ft_d o_FT_reportLength 10 rfl) rfl rfl ?_
      refine fv_getR (b := 294) (ft_d o_FT_reportLength 11 rfl) rfl fl_FT_83 sh_0 rfl ly_0_12 ?_
      refine fv_getI (ft_d o_FT_reportLength 12 rfl) rfl fl_FT_304 sh_294 rfl ?_
      exact fv_ireturn (ft_d o_FT_reportLength 13 rfl) rfl w
    · have w := w.2 c
      refine fv_iconst (ft_d o_FT_reportLength 5 rfl) rfl rfl ?_
      exact fv_ireturn (ft_d o_FT_reportLength 6 rfl) rfl w
set_option maxRecDepth 20000 in
theorem b_FT_reportByte_0 {x1 : Int} {x2 : Int} {h : ftH} {R : Option ftV → ftH → Prop} 
    (w : ((x1 < 0 → R (some (.inl ((-1)))) h) ∧ (¬ (x1 < 0) → ((4 < x1 → R (some (.inl ((-1)))) h) ∧ (¬ (4 < x1) → ((0 ≤ x2 → (∃ R1 : Option ftV → ftH → Prop, ft_C k_FT_writeReport [.inr (.inr 0), .inl x1] h R1 ∧ ∀ h1 : ftH, R1 none h1 → ((h1 294 1 ≤ x2 → R (some (.inl ((-2)))) h1) ∧ (¬ (h1 294 1 ≤ x2) → ((0 ≤ x2 ∧ x2 < 1760) ∧ R (some (.inl (h1 295 x2.toNat))) h1))))) ∧ (¬ (0 ≤ x2) → R (some (.inl ((-1)))) h))))))) : ft_V k_FT_reportByte 0 [some (.inr (.inr 0)), some (.inl x1), some (.inl x2)] [] h R := by
  refine fv_iload_n (ft_d o_FT_reportByte 0 rfl) rfl rfl ?_
  refine fv_if_lt (tgt := 13) (ft_d o_FT_reportByte 1 rfl) rfl rfl (fun c => ?_) (fun c => ?_)
  · have w := w.1 c
    refine fv_iconst (ft_d o_FT_reportByte 7 rfl) rfl rfl ?_
    exact fv_ireturn (ft_d o_FT_reportByte 8 rfl) rfl w
  · have w := w.2 c
    refine fv_iload_n (ft_d o_FT_reportByte 2 rfl) rfl rfl ?_
    refine fv_iconst (ft_d o_FT_reportByte 3 rfl) rfl rfl ?_
    refine fv_icmp_gt (tgt := 13) (ft_d o_FT_reportByte 4 rfl) rfl rfl (fun c => ?_) (fun c => ?_)
    · have w := w.1 c
      refine fv_iconst (ft_d o_FT_reportByte 7 rfl) rfl rfl ?_
      exact fv_ireturn (ft_d o_FT_reportByte 8 rfl) rfl w
    · have w := w.2 c
      refine fv_iload_n (ft_d o_FT_reportByte 5 rfl) rfl rfl ?_
      refine fv_if_ge (tgt := 15) (ft_d o_FT_reportByte 6 rfl) rfl rfl (fun c => ?_) (fun c => ?_)
      · have w := w.1 c
        refine fv_aload_n (ft_d o_FT_reportByte 9 rfl) rfl rfl ?_
        refine fv_iload_n (ft_d o_FT_reportByte 10 rfl) rfl rfl ?_
        obtain ⟨R1, c2, w⟩ := w
        refine fv_callv (st := []) rfl rfl (ft_mm (pre := [.inl x1, .inr (.inr 0)]) rfl) (ft_rnV (K' := k_FT_writeReport) (As := [.inl x1]) (ft_d o_FT_reportByte 11 rfl) ml_FT_301 li_FT_writeReport.1 li_FT_writeReport.2 lw_FT_writeReport ⟨rfl, rfl, Nat.le_of_ble_eq_true rfl, Nat.le_of_ble_eq_true rfl⟩ sh_0 rfl rfl rfl rfl (Nat.le_of_ble_eq_true rfl) c2) (fun h1 hw => ?_)
        have w := w h1 hw
        refine fv_iload_n (ft_d o_FT_reportByte 12 rfl) rfl rfl ?_
        refine fv_aload_n (ft_d o_FT_reportByte 13 rfl) rfl rfl ?_
        refine fv_getR (b := 294) (ft_d o_FT_reportByte 14 rfl) rfl fl_FT_83 sh_0 rfl ly_0_12 ?_
        refine fv_getI (ft_d o_FT_reportByte 15 rfl) rfl fl_FT_304 sh_294 rfl ?_
        refine fv_icmp_ge (tgt := 43) (ft_d o_FT_reportByte 16 rfl) rfl rfl (fun c => ?_) (fun c => ?_)
        · have w := w.1 c
          refine fv_bipush (ft_d o_FT_reportByte 23 rfl) rfl rfl ?_
          exact fv_ireturn (ft_d o_FT_reportByte 24 rfl) rfl w
        · have w := w.2 c
          refine fv_aload_n (ft_d o_FT_reportByte 17 rfl) rfl rfl ?_
          refine fv_getR (b := 294) (ft_d o_FT_reportByte 18 rfl) rfl fl_FT_83 sh_0 rfl ly_0_12 ?_
          refine fv_getR (b := 295) (ft_d o_FT_reportByte 19 rfl) rfl fl_FT_305 sh_294 rfl ly_294_0 ?_
          refine fv_iload_n (ft_d o_FT_reportByte 20 rfl) rfl rfl ?_
          refine fv_bald (ft_d o_FT_reportByte 21 rfl) rfl sh_295 w.1 ?_
          have w := w.2
          refine fv_goto (pc' := 45) (ft_d o_FT_reportByte 22 rfl) rfl ?_
          exact fv_ireturn (ft_d o_FT_reportByte 24 rfl) rfl w
      · have w := w.2 c
        refine fv_iconst (ft_d o_FT_reportByte 7 rfl) rfl rfl ?_
        exact fv_ireturn (ft_d o_FT_reportByte 8 rfl) rfl w
set_option maxRecDepth 20000 in
theorem b_FT_settle_0 {x1 : Int} {h : ftH} {R : Option ftV → ftH → Prop} 
    (w : ((1 ≤ h 0 5 → ft_V k_FT_settle 32 [some (.inr (.inr 0)), some (.inl x1)] [] h R) ∧ (¬ (1 ≤ h 0 5) → ((x1 < 1 → ft_V k_FT_settle 32 [some (.inr (.inr 0)), some (.inl x1)] [] h R) ∧ (¬ (x1 < 1) → (∃ R1 : Option ftV → ftH → Prop, ft_C k_Cv_sweep [.inr (.inr 115), .inr (.inr 2)] h R1 ∧ ∀ h1 : ftH, R1 none h1 → (∀ h2 : ftH, h2 = ft_hs h1 0 5 1 → ft_V k_FT_settle 32 [some (.inr (.inr 0)), some (.inl x1)] [] h2 R))))))) : ft_V k_FT_settle 0 [some (.inr (.inr 0)), some (.inl x1)] [] h R := by
  refine fv_aload_n (ft_d o_FT_settle 0 rfl) rfl rfl ?_
  refine fv_getI (ft_d o_FT_settle 1 rfl) rfl fl_FT_37 sh_0 rfl ?_
  refine fv_iconst (ft_d o_FT_settle 2 rfl) rfl rfl ?_
  refine fv_icmp_ge (tgt := 32) (ft_d o_FT_settle 3 rfl) rfl rfl (fun c => ?_) (fun c => ?_)
  · have w := w.1 c
    exact w
  · have w := w.2 c
    refine fv_iload_n (ft_d o_FT_settle 4 rfl) rfl rfl ?_
    refine fv_iconst (ft_d o_FT_settle 5 rfl) rfl rfl ?_
    refine fv_icmp_lt (tgt := 32) (ft_d o_FT_settle 6 rfl) rfl rfl (fun c => ?_) (fun c => ?_)
    · have w := w.1 c
      exact w
    · have w := w.2 c
      refine fv_aload_n (ft_d o_FT_settle 7 rfl) rfl rfl ?_
      refine fv_getR (b := 115) (ft_d o_FT_settle 8 rfl) rfl fl_FT_45 sh_0 rfl ly_0_6 ?_
      refine fv_aload_n (ft_d o_FT_settle 9 rfl) rfl rfl ?_
      refine fv_getR (b := 1) (ft_d o_FT_settle 10 rfl) rfl fl_FT_12 sh_0 rfl ly_0_0 ?_
      refine fv_getR (b := 2) (ft_d o_FT_settle 11 rfl) rfl fl_FT_122 sh_1 rfl ly_1_1 ?_
      obtain ⟨R1, c2, w⟩ := w
      refine fv_callv (st := []) rfl rfl (ft_mm (pre := [.inr (.inr 2), .inr (.inr 115)]) rfl) (ft_rnV (K' := k_Cv_sweep) (As := [.inr (.inr 2)]) (ft_d o_FT_settle 12 rfl) ml_FT_285 li_Cv_sweep.1 li_Cv_sweep.2 lw_Cv_sweep ⟨rfl, rfl, Nat.le_of_ble_eq_true rfl, Nat.le_of_ble_eq_true rfl⟩ sh_115 rfl rfl rfl rfl (Nat.le_of_ble_eq_true rfl) c2) (fun h1 hw => ?_)
      have w := w h1 hw
      refine fv_aload_n (ft_d o_FT_settle 13 rfl) rfl rfl ?_
      refine fv_iconst (ft_d o_FT_settle 14 rfl) rfl rfl ?_
      refine fv_putI (ft_d o_FT_settle 15 rfl) rfl fl_FT_37 rfl rfl sh_0 rfl ?_
      generalize eh2 : ft_hs h1 0 5 1 = h2
      have w := w h2 eh2.symm
      exact w
set_option maxRecDepth 20000 in
theorem b_FT_settle_32 {x1 : Int} {h : ftH} {R : Option ftV → ftH → Prop} 
    (w : ((2 ≤ h 0 5 → ft_V k_FT_settle 87 [some (.inr (.inr 0)), some (.inl x1)] [] h R) ∧ (¬ (2 ≤ h 0 5) → ((x1 < 2 → ft_V k_FT_settle 87 [some (.inr (.inr 0)), some (.inl x1)] [] h R) ∧ (¬ (x1 < 2) → (∃ R1 : Option ftV → ftH → Prop, ft_C k_Co_compress [.inr (.inr 122), .inr (.inr 2)] h R1 ∧ ∀ (z3 : Int) (h1 : ftH), ft_in z3 → R1 (some (.inl z3)) h1 → (∃ R4 : Option ftV → ftH → Prop, ft_C k_Co_collect [.inr (.inr 122), .inr (.inr 133)] h1 R4 ∧ ∀ h2 : ftH, R4 none h2 → (∃ R6 : Option ftV → ftH → Prop, ft_C k_Cv_sweep [.inr (.inr 136), .inr (.inr 133)] h2 R6 ∧ ∀ h3 : ftH, R6 none h3 → (∀ h4 : ftH, h4 = ft_hs h3 0 5 2 → ft_V k_FT_settle 87 [some (.inr (.inr 0)), some (.inl x1)] [] h4 R))))))))) : ft_V k_FT_settle 32 [some (.inr (.inr 0)), some (.inl x1)] [] h R := by
  refine fv_aload_n (ft_d o_FT_settle 16 rfl) rfl rfl ?_
  refine fv_getI (ft_d o_FT_settle 17 rfl) rfl fl_FT_37 sh_0 rfl ?_
  refine fv_iconst (ft_d o_FT_settle 18 rfl) rfl rfl ?_
  refine fv_icmp_ge (tgt := 87) (ft_d o_FT_settle 19 rfl) rfl rfl (fun c => ?_) (fun c => ?_)
  · have w := w.1 c
    exact w
  · have w := w.2 c
    refine fv_iload_n (ft_d o_FT_settle 20 rfl) rfl rfl ?_
    refine fv_iconst (ft_d o_FT_settle 21 rfl) rfl rfl ?_
    refine fv_icmp_lt (tgt := 87) (ft_d o_FT_settle 22 rfl) rfl rfl (fun c => ?_) (fun c => ?_)
    · have w := w.1 c
      exact w
    · have w := w.2 c
      refine fv_aload_n (ft_d o_FT_settle 23 rfl) rfl rfl ?_
      refine fv_getR (b := 122) (ft_d o_FT_settle 24 rfl) rfl fl_FT_52 sh_0 rfl ly_0_7 ?_
      refine fv_aload_n (ft_d o_FT_settle 25 rfl) rfl rfl ?_
      refine fv_getR (b := 1) (ft_d o_FT_settle 26 rfl) rfl fl_FT_12 sh_0 rfl ly_0_0 ?_
      refine fv_getR (b := 2) (ft_d o_FT_settle 27 rfl) rfl fl_FT_122 sh_1 rfl ly_1_1 ?_
      obtain ⟨R1, c2, w⟩ := w
      refine fv_calli (st := []) (Or.inl rfl) rfl (ft_mm (pre := [.inr (.inr 2), .inr (.inr 122)]) rfl) (ft_rnV (K' := k_Co_compress) (As := [.inr (.inr 2)]) (ft_d o_FT_settle 28 rfl) ml_FT_309 li_Co_compress.1 li_Co_compress.2 lw_Co_compress ⟨rfl, rfl, Nat.le_of_ble_eq_true rfl, Nat.le_of_ble_eq_true rfl⟩ sh_122 rfl rfl rfl rfl (Nat.le_of_ble_eq_true rfl) c2) (fun z3 h1 hz hw => ?_)
      have w := w z3 h1 hz hw
      refine fv_pop (ft_d o_FT_settle 29 rfl) rfl rfl ?_
      refine fv_aload_n (ft_d o_FT_settle 30 rfl) rfl rfl ?_
      refine fv_getR (b := 122) (ft_d o_FT_settle 31 rfl) rfl fl_FT_52 sh_0 rfl ly_0_7 ?_
      refine fv_aload_n (ft_d o_FT_settle 32 rfl) rfl rfl ?_
      refine fv_getR (b := 133) (ft_d o_FT_settle 33 rfl) rfl fl_FT_59 sh_0 rfl ly_0_8 ?_
      obtain ⟨R4, c5, w⟩ := w
      refine fv_callv (st := []) rfl rfl (ft_mm (pre := [.inr (.inr 133), .inr (.inr 122)]) rfl) (ft_rnV (K' := k_Co_collect) (As := [.inr (.inr 133)]) (ft_d o_FT_settle 34 rfl) ml_FT_312 li_Co_collect.1 li_Co_collect.2 lw_Co_collect ⟨rfl, rfl, Nat.le_of_ble_eq_true rfl, Nat.le_of_ble_eq_true rfl⟩ sh_122 rfl rfl rfl rfl (Nat.le_of_ble_eq_true rfl) c5) (fun h2 hw => ?_)
      have w := w h2 hw
      refine fv_aload_n (ft_d o_FT_settle 35 rfl) rfl rfl ?_
      refine fv_getR (b := 136) (ft_d o_FT_settle 36 rfl) rfl fl_FT_63 sh_0 rfl ly_0_9 ?_
      refine fv_aload_n (ft_d o_FT_settle 37 rfl) rfl rfl ?_
      refine fv_getR (b := 133) (ft_d o_FT_settle 38 rfl) rfl fl_FT_59 sh_0 rfl ly_0_8 ?_
      obtain ⟨R6, c7, w⟩ := w
      refine fv_callv (st := []) rfl rfl (ft_mm (pre := [.inr (.inr 133), .inr (.inr 136)]) rfl) (ft_rnV (K' := k_Cv_sweep) (As := [.inr (.inr 133)]) (ft_d o_FT_settle 39 rfl) ml_FT_285 li_Cv_sweep.1 li_Cv_sweep.2 lw_Cv_sweep ⟨rfl, rfl, Nat.le_of_ble_eq_true rfl, Nat.le_of_ble_eq_true rfl⟩ sh_136 rfl rfl rfl rfl (Nat.le_of_ble_eq_true rfl) c7) (fun h3 hw => ?_)
      have w := w h3 hw
      refine fv_aload_n (ft_d o_FT_settle 40 rfl) rfl rfl ?_
      refine fv_iconst (ft_d o_FT_settle 41 rfl) rfl rfl ?_
      refine fv_putI (ft_d o_FT_settle 42 rfl) rfl fl_FT_37 rfl rfl sh_0 rfl ?_
      generalize eh4 : ft_hs h3 0 5 2 = h4
      have w := w h4 eh4.symm
      exact w
set_option maxRecDepth 20000 in
theorem b_FT_settle_87 {x1 : Int} {h : ftH} {R : Option ftV → ftH → Prop} 
    (w : ((3 ≤ h 0 5 → ft_V k_FT_settle 163 [some (.inr (.inr 0)), some (.inl x1)] [] h R) ∧ (¬ (3 ≤ h 0 5) → ((x1 < 3 → ft_V k_FT_settle 163 [some (.inr (.inr 0)), some (.inl x1)] [] h R) ∧ (¬ (x1 < 3) → (∃ R1 : Option ftV → ftH → Prop, ft_C k_Ch_countHits [.inr (.inr 143), .inr (.inr 133), .inr (.inr 8)] h R1 ∧ ∀ h1 : ftH, R1 none h1 → (∃ R3 : Option ftV → ftH → Prop, ft_C k_Ch_weigh [.inr (.inr 143), .inr (.inr 136), .inl (h1 133 2)] h1 R3 ∧ ∀ h2 : ftH, R3 none h2 → (∃ R5 : Option ftV → ftH → Prop, ft_C k_Ch_choose [.inr (.inr 143), .inr (.inr 133), .inr (.inr 136), .inl (h2 1 0)] h2 R5 ∧ ∀ h3 : ftH, R5 none h3 → (∀ h4 : ftH, h4 = ft_hs h3 0 5 3 → ft_V k_FT_settle 163 [some (.inr (.inr 0)), some (.inl x1)] [] h4 R))))))))) : ft_V k_FT_settle 87 [some (.inr (.inr 0)), some (.inl x1)] [] h R := by
  refine fv_aload_n (ft_d o_FT_settle 43 rfl) rfl rfl ?_
  refine fv_getI (ft_d o_FT_settle 44 rfl) rfl fl_FT_37 sh_0 rfl ?_
  refine fv_iconst (ft_d o_FT_settle 45 rfl) rfl rfl ?_
  refine fv_icmp_ge (tgt := 163) (ft_d o_FT_settle 46 rfl) rfl rfl (fun c => ?_) (fun c => ?_)
  · have w := w.1 c
    exact w
  · have w := w.2 c
    refine fv_iload_n (ft_d o_FT_settle 47 rfl) rfl rfl ?_
    refine fv_iconst (ft_d o_FT_settle 48 rfl) rfl rfl ?_
    refine fv_icmp_lt (tgt := 163) (ft_d o_FT_settle 49 rfl) rfl rfl (fun c => ?_) (fun c => ?_)
    · have w := w.1 c
      exact w
    · have w := w.2 c
      refine fv_aload_n (ft_d o_FT_settle 50 rfl) rfl rfl ?_
      refine fv_getR (b := 143) (ft_d o_FT_settle 51 rfl) rfl fl_FT_69 sh_0 rfl ly_0_10 ?_
      refine fv_aload_n (ft_d o_FT_settle 52 rfl) rfl rfl ?_
      refine fv_getR (b := 133) (ft_d o_FT_settle 53 rfl) rfl fl_FT_59 sh_0 rfl ly_0_8 ?_
      refine fv_aload_n (ft_d o_FT_settle 54 rfl) rfl rfl ?_
      refine fv_getR (b := 1) (ft_d o_FT_settle 55 rfl) rfl fl_FT_12 sh_0 rfl ly_0_0 ?_
      refine fv_getR (b := 8) (ft_d o_FT_settle 56 rfl) rfl fl_FT_202 sh_1 rfl ly_1_3 ?_
      obtain ⟨R1, c2, w⟩ := w
      refine fv_callv (st := []) rfl rfl (ft_mm (pre := [.inr (.inr 8), .inr (.inr 133), .inr (.inr 143)]) rfl) (ft_rnV (K' := k_Ch_countHits) (As := [.inr (.inr 133), .inr (.inr 8)]) (ft_d o_FT_settle 57 rfl) ml_FT_315 li_Ch_countHits.1 li_Ch_countHits.2 lw_Ch_countHits ⟨rfl, rfl, Nat.le_of_ble_eq_true rfl, Nat.le_of_ble_eq_true rfl⟩ sh_143 rfl rfl rfl rfl (Nat.le_of_ble_eq_true rfl) c2) (fun h1 hw => ?_)
      have w := w h1 hw
      refine fv_aload_n (ft_d o_FT_settle 58 rfl) rfl rfl ?_
      refine fv_getR (b := 143) (ft_d o_FT_settle 59 rfl) rfl fl_FT_69 sh_0 rfl ly_0_10 ?_
      refine fv_aload_n (ft_d o_FT_settle 60 rfl) rfl rfl ?_
      refine fv_getR (b := 136) (ft_d o_FT_settle 61 rfl) rfl fl_FT_63 sh_0 rfl ly_0_9 ?_
      refine fv_aload_n (ft_d o_FT_settle 62 rfl) rfl rfl ?_
      refine fv_getR (b := 133) (ft_d o_FT_settle 63 rfl) rfl fl_FT_59 sh_0 rfl ly_0_8 ?_
      refine fv_getI (ft_d o_FT_settle 64 rfl) rfl fl_FT_125 sh_133 rfl ?_
      obtain ⟨R3, c4, w⟩ := w
      refine fv_callv (st := []) rfl rfl (ft_mm (pre := [.inl (h1 133 2), .inr (.inr 136), .inr (.inr 143)]) rfl) (ft_rnV (K' := k_Ch_weigh) (As := [.inr (.inr 136), .inl (h1 133 2)]) (ft_d o_FT_settle 65 rfl) ml_FT_319 li_Ch_weigh.1 li_Ch_weigh.2 lw_Ch_weigh ⟨rfl, rfl, Nat.le_of_ble_eq_true rfl, Nat.le_of_ble_eq_true rfl⟩ sh_143 rfl rfl rfl rfl (Nat.le_of_ble_eq_true rfl) c4) (fun h2 hw => ?_)
      have w := w h2 hw
      refine fv_aload_n (ft_d o_FT_settle 66 rfl) rfl rfl ?_
      refine fv_getR (b := 143) (ft_d o_FT_settle 67 rfl) rfl fl_FT_69 sh_0 rfl ly_0_10 ?_
      refine fv_aload_n (ft_d o_FT_settle 68 rfl) rfl rfl ?_
      refine fv_getR (b := 133) (ft_d o_FT_settle 69 rfl) rfl fl_FT_59 sh_0 rfl ly_0_8 ?_
      refine fv_aload_n (ft_d o_FT_settle 70 rfl) rfl rfl ?_
      refine fv_getR (b := 136) (ft_d o_FT_settle 71 rfl) rfl fl_FT_63 sh_0 rfl ly_0_9 ?_
      refine fv_aload_n (ft_d o_FT_settle 72 rfl) rfl rfl ?_
      refine fv_getR (b := 1) (ft_d o_FT_settle 73 rfl) rfl fl_FT_12 sh_0 rfl ly_0_0 ?_
      refine fv_getI (ft_d o_FT_settle 74 rfl) rfl fl_FT_126 sh_1 rfl ?_
      obtain ⟨R5, c6, w⟩ := w
      refine fv_callv (st := []) rfl rfl (ft_mm (pre := [.inl (h2 1 0), .inr (.inr 136), .inr (.inr 133), .inr (.inr 143)]) rfl) (ft_rnV (K' := k_Ch_choose) (As := [.inr (.inr 133), .inr (.inr 136), .inl (h2 1 0)]) (ft_d o_FT_settle 75 rfl) ml_FT_323 li_Ch_choose.1 li_Ch_choose.2 lw_Ch_choose ⟨rfl, rfl, Nat.le_of_ble_eq_true rfl, Nat.le_of_ble_eq_true rfl⟩ sh_143 rfl rfl rfl rfl (Nat.le_of_ble_eq_true rfl) c6) (fun h3 hw => ?_)
      have w := w h3 hw
      refine fv_aload_n (ft_d o_FT_settle 76 rfl) rfl rfl ?_
      refine fv_iconst (ft_d o_FT_settle 77 rfl) rfl rfl ?_
      refine fv_putI (ft_d o_FT_settle 78 rfl) rfl fl_FT_37 rfl rfl sh_0 rfl ?_
      generalize eh4 : ft_hs h3 0 5 3 = h4
      have w := w h4 eh4.symm
      exact w
set_option maxRecDepth 20000 in
theorem b_FT_settle_163 {x1 : Int} {h : ftH} {R : Option ftV → ftH → Prop} 
    (w : ((4 ≤ h 0 5 → R none h) ∧ (¬ (4 ≤ h 0 5) → ((x1 < 4 → R none h) ∧ (¬ (x1 < 4) → ((0 ≤ h 1 0 ∧ h 1 0 ≤ 1000) ∧ (∃ R3 : Option ftV → ftH → Prop, ft_C k_SP_make [.inr (.inr 289), .inr (.inr 5), .inr (.inr 145), .inl (2 * h 1 0)] h R3 ∧ ∀ h1 : ftH, R3 none h1 → (∀ h2 : ftH, h2 = ft_hs h1 0 5 4 → R none h2)))))))) : ft_V k_FT_settle 163 [some (.inr (.inr 0)), some (.inl x1)] [] h R := by
  refine fv_aload_n (ft_d o_FT_settle 79 rfl) rfl rfl ?_
  refine fv_getI (ft_d o_FT_settle 80 rfl) rfl fl_FT_37 sh_0 rfl ?_
  refine fv_iconst (ft_d o_FT_settle 81 rfl) rfl rfl ?_
  refine fv_icmp_ge (tgt := 209) (ft_d o_FT_settle 82 rfl) rfl rfl (fun c => ?_) (fun c => ?_)
  · have w := w.1 c
    exact fv_return (ft_d o_FT_settle 101 rfl) rfl w
  · have w := w.2 c
    refine fv_iload_n (ft_d o_FT_settle 83 rfl) rfl rfl ?_
    refine fv_iconst (ft_d o_FT_settle 84 rfl) rfl rfl ?_
    refine fv_icmp_lt (tgt := 209) (ft_d o_FT_settle 85 rfl) rfl rfl (fun c => ?_) (fun c => ?_)
    · have w := w.1 c
      exact fv_return (ft_d o_FT_settle 101 rfl) rfl w
    · have w := w.2 c
      refine fv_aload_n (ft_d o_FT_settle 86 rfl) rfl rfl ?_
      refine fv_getR (b := 289) (ft_d o_FT_settle 87 rfl) rfl fl_FT_76 sh_0 rfl ly_0_11 ?_
      refine fv_aload_n (ft_d o_FT_settle 88 rfl) rfl rfl ?_
      refine fv_getR (b := 1) (ft_d o_FT_settle 89 rfl) rfl fl_FT_12 sh_0 rfl ly_0_0 ?_
      refine fv_getR (b := 5) (ft_d o_FT_settle 90 rfl) rfl fl_FT_132 sh_1 rfl ly_1_2 ?_
      refine fv_aload_n (ft_d o_FT_settle 91 rfl) rfl rfl ?_
      refine fv_getR (b := 143) (ft_d o_FT_settle 92 rfl) rfl fl_FT_69 sh_0 rfl ly_0_10 ?_
      refine fv_getR (b := 145) (ft_d o_FT_settle 93 rfl) rfl fl_FT_231 sh_143 rfl ly_143_1 ?_
      refine fv_aload_n (ft_d o_FT_settle 94 rfl) rfl rfl ?_
      refine fv_getR (b := 1) (ft_d o_FT_settle 95 rfl) rfl fl_FT_12 sh_0 rfl ly_0_0 ?_
      refine fv_callif (st := [.inr (.inr 145), .inr (.inr 5), .inr (.inr 289)]) (z := 2 * h 1 0) (Or.inl rfl) rfl (ft_mm (pre := [.inr (.inr 1)]) rfl) (ft_rnV (K' := k_St_room) (As := []) (ft_d o_FT_settle 96 rfl) ml_FT_135 li_St_room.1 li_St_room.2 lw_St_room ⟨rfl, rfl, Nat.le_of_ble_eq_true rfl, Nat.le_of_ble_eq_true rfl⟩ sh_1 rfl rfl rfl rfl (Nat.le_of_ble_eq_true rfl) (c_St_room sh_1 w.1)) ?_
      have w := w.2
      obtain ⟨R3, c4, w⟩ := w
      refine fv_callv (st := []) rfl rfl (ft_mm (pre := [.inl (2 * h 1 0), .inr (.inr 145), .inr (.inr 5), .inr (.inr 289)]) rfl) (ft_rnV (K' := k_SP_make) (As := [.inr (.inr 5), .inr (.inr 145), .inl (2 * h 1 0)]) (ft_d o_FT_settle 97 rfl) ml_FT_327 li_SP_make.1 li_SP_make.2 lw_SP_make ⟨rfl, rfl, Nat.le_of_ble_eq_true rfl, Nat.le_of_ble_eq_true rfl⟩ sh_289 rfl rfl rfl rfl (Nat.le_of_ble_eq_true rfl) c4) (fun h1 hw => ?_)
      have w := w h1 hw
      refine fv_aload_n (ft_d o_FT_settle 98 rfl) rfl rfl ?_
      refine fv_iconst (ft_d o_FT_settle 99 rfl) rfl rfl ?_
      refine fv_putI (ft_d o_FT_settle 100 rfl) rfl fl_FT_37 rfl rfl sh_0 rfl ?_
      generalize eh2 : ft_hs h1 0 5 4 = h2
      have w := w h2 eh2.symm
      exact fv_return (ft_d o_FT_settle 101 rfl) rfl w
set_option maxRecDepth 20000 in
theorem b_FT_unsettle_0 {x1 : Int} {h : ftH} {R : Option ftV → ftH → Prop} 
    (w : (∀ h1 : ftH, h1 = ft_hs h 0 5 (min (h 0 5) x1) → (∀ h2 : ftH, h2 = ft_hs h1 294 2 ((-1)) → R none h2))) : ft_V k_FT_unsettle 0 [some (.inr (.inr 0)), some (.inl x1)] [] h R := by
  refine fv_aload_n (ft_d o_FT_unsettle 0 rfl) rfl rfl ?_
  refine fv_aload_n (ft_d o_FT_unsettle 1 rfl) rfl rfl ?_
  refine fv_getI (ft_d o_FT_unsettle 2 rfl) rfl fl_FT_37 sh_0 rfl ?_
  refine fv_iload_n (ft_d o_FT_unsettle 3 rfl) rfl rfl ?_
  refine fv_min (ft_d o_FT_unsettle 4 rfl) rfl ml_FT_331 (Nat.le_of_ble_eq_true rfl) (Nat.le_of_ble_eq_true rfl) (Nat.le_of_ble_eq_true rfl) ?_
  refine fv_putI (ft_d o_FT_unsettle 5 rfl) rfl fl_FT_37 rfl rfl sh_0 rfl ?_
  generalize eh1 : ft_hs h 0 5 (min (h 0 5) x1) = h1
  have w := w h1 eh1.symm
  refine fv_aload_n (ft_d o_FT_unsettle 6 rfl) rfl rfl ?_
  refine fv_getR (b := 294) (ft_d o_FT_unsettle 7 rfl) rfl fl_FT_83 sh_0 rfl ly_0_12 ?_
  refine fv_iconst (ft_d o_FT_unsettle 8 rfl) rfl rfl ?_
  refine fv_putI (ft_d o_FT_unsettle 9 rfl) rfl fl_FT_337 rfl rfl sh_294 rfl ?_
  generalize eh2 : ft_hs h1 294 2 ((-1)) = h2
  have w := w h2 eh2.symm
  exact fv_return (ft_d o_FT_unsettle 10 rfl) rfl w
set_option maxRecDepth 20000 in
theorem b_FT_writeReport_0 {x1 : Int} {h : ftH} {R : Option ftV → ftH → Prop} 
    (w : ((¬ (h 294 2 = x1) → (∀ h1 : ftH, h1 = ft_hs h 294 1 0 → (∀ h2 : ftH, h2 = ft_hs h1 294 2 x1 → (((x1 < 0 ∨ 3 < x1) → (∃ R1 : Option ftV → ftH → Prop, ft_C k_Re_addTraffic [.inr (.inr 294), .inr (.inr 8)] h2 R1 ∧ ∀ h3 : ftH, R1 none h3 → R none h3)) ∧ (x1 = 0 → (∃ R3 : Option ftV → ftH → Prop, ft_C k_Re_addPrefixes [.inr (.inr 294), .inr (.inr 2)] h2 R3 ∧ ∀ h4 : ftH, R3 none h4 → R none h4)) ∧ (x1 = 1 → (∃ R5 : Option ftV → ftH → Prop, ft_C k_FT_settle [.inr (.inr 0), .inl 2] h2 R5 ∧ ∀ h5 : ftH, R5 none h5 → (∃ R7 : Option ftV → ftH → Prop, ft_C k_Re_addPrefixes [.inr (.inr 294), .inr (.inr 133)] h5 R7 ∧ ∀ h6 : ftH, R7 none h6 → R none h6))) ∧ (x1 = 2 → (∃ R9 : Option ftV → ftH → Prop, ft_C k_FT_settle [.inr (.inr 0), .inl 3] h2 R9 ∧ ∀ h7 : ftH, R9 none h7 → (∃ R11 : Option ftV → ftH → Prop, ft_C k_Re_addPrefixes [.inr (.inr 294), .inr (.inr 145)] h7 R11 ∧ ∀ h8 : ftH, R11 none h8 → R none h8))) ∧ (x1 = 3 → (∃ R13 : Option ftV → ftH → Prop, ft_C k_Re_addPrefixes [.inr (.inr 294), .inr (.inr 5)] h2 R13 ∧ ∀ h9 : ftH, R13 none h9 → R none h9)))))) ∧ (h 294 2 = x1 → R none h))) : ft_V k_FT_writeReport 0 [some (.inr (.inr 0)), some (.inl x1)] [] h R := by
  refine fv_aload_n (ft_d o_FT_writeReport 0 rfl) rfl rfl ?_
  refine fv_getR (b := 294) (ft_d o_FT_writeReport 1 rfl) rfl fl_FT_83 sh_0 rfl ly_0_12 ?_
  refine fv_getI (ft_d o_FT_writeReport 2 rfl) rfl fl_FT_337 sh_294 rfl ?_
  refine fv_iload_n (ft_d o_FT_writeReport 3 rfl) rfl rfl ?_
  refine fv_icmp_ne (tgt := 12) (ft_d o_FT_writeReport 4 rfl) rfl rfl (fun c => ?_) (fun c => ?_)
  · have w := w.1 c
    refine fv_aload_n (ft_d o_FT_writeReport 6 rfl) rfl rfl ?_
    refine fv_getR (b := 294) (ft_d o_FT_writeReport 7 rfl) rfl fl_FT_83 sh_0 rfl ly_0_12 ?_
    refine fv_iconst (ft_d o_FT_writeReport 8 rfl) rfl rfl ?_
    refine fv_putI (ft_d o_FT_writeReport 9 rfl) rfl fl_FT_304 rfl rfl sh_294 rfl ?_
    generalize eh1 : ft_hs h 294 1 0 = h1
    have w := w h1 eh1.symm
    refine fv_aload_n (ft_d o_FT_writeReport 10 rfl) rfl rfl ?_
    refine fv_getR (b := 294) (ft_d o_FT_writeReport 11 rfl) rfl fl_FT_83 sh_0 rfl ly_0_12 ?_
    refine fv_iload_n (ft_d o_FT_writeReport 12 rfl) rfl rfl ?_
    refine fv_putI (ft_d o_FT_writeReport 13 rfl) rfl fl_FT_337 rfl rfl sh_294 rfl ?_
    generalize eh2 : ft_hs h1 294 2 x1 = h2
    have w := w h2 eh2.symm
    refine fv_iload_n (ft_d o_FT_writeReport 14 rfl) rfl rfl ?_
    rcases (by omega : (x1 < 0 ∨ 3 < x1) ∨ x1 = 0 ∨ x1 = 1 ∨ x1 = 2 ∨ x1 = 3) with c | c | c | c | c
    · have w := w.1 c
      refine fv_tswOut (pc' := 135) (ft_d o_FT_writeReport 15 rfl) c rfl ?_
      refine fv_aload_n (ft_d o_FT_writeReport 49 rfl) rfl rfl ?_
      refine fv_getR (b := 294) (ft_d o_FT_writeReport 50 rfl) rfl fl_FT_83 sh_0 rfl ly_0_12 ?_
      refine fv_aload_n (ft_d o_FT_writeReport 51 rfl) rfl rfl ?_
      refine fv_getR (b := 1) (ft_d o_FT_writeReport 52 rfl) rfl fl_FT_12 sh_0 rfl ly_0_0 ?_
      refine fv_getR (b := 8) (ft_d o_FT_writeReport 53 rfl) rfl fl_FT_202 sh_1 rfl ly_1_3 ?_
      obtain ⟨R1, c2, w⟩ := w
      refine fv_callv (st := []) rfl rfl (ft_mm (pre := [.inr (.inr 8), .inr (.inr 294)]) rfl) (ft_rnV (K' := k_Re_addTraffic) (As := [.inr (.inr 8)]) (ft_d o_FT_writeReport 54 rfl) ml_FT_343 li_Re_addTraffic.1 li_Re_addTraffic.2 lw_Re_addTraffic ⟨rfl, rfl, Nat.le_of_ble_eq_true rfl, Nat.le_of_ble_eq_true rfl⟩ sh_294 rfl rfl rfl rfl (Nat.le_of_ble_eq_true rfl) c2) (fun h3 hw => ?_)
      have w := w h3 hw
      exact fv_return (ft_d o_FT_writeReport 55 rfl) rfl w
    · have w := w.2.1 c
      refine fv_tswIn (pc' := 60) (ft_d o_FT_writeReport 15 rfl) (by omega) (by omega) (by rw [c]; rfl) rfl ?_
      refine fv_aload_n (ft_d o_FT_writeReport 16 rfl) rfl rfl ?_
      refine fv_getR (b := 294) (ft_d o_FT_writeReport 17 rfl) rfl fl_FT_83 sh_0 rfl ly_0_12 ?_
      refine fv_aload_n (ft_d o_FT_writeReport 18 rfl) rfl rfl ?_
      refine fv_getR (b := 1) (ft_d o_FT_writeReport 19 rfl) rfl fl_FT_12 sh_0 rfl ly_0_0 ?_
      refine fv_getR (b := 2) (ft_d o_FT_writeReport 20 rfl) rfl fl_FT_122 sh_1 rfl ly_1_1 ?_
      obtain ⟨R3, c4, w⟩ := w
      refine fv_callv (st := []) rfl rfl (ft_mm (pre := [.inr (.inr 2), .inr (.inr 294)]) rfl) (ft_rnV (K' := k_Re_addPrefixes) (As := [.inr (.inr 2)]) (ft_d o_FT_writeReport 21 rfl) ml_FT_340 li_Re_addPrefixes.1 li_Re_addPrefixes.2 lw_Re_addPrefixes ⟨rfl, rfl, Nat.le_of_ble_eq_true rfl, Nat.le_of_ble_eq_true rfl⟩ sh_294 rfl rfl rfl rfl (Nat.le_of_ble_eq_true rfl) c4) (fun h4 hw => ?_)
      have w := w h4 hw
      refine fv_goto (pc' := 149) (ft_d o_FT_writeReport 22 rfl) rfl ?_
      exact fv_return (ft_d o_FT_writeReport 55 rfl) rfl w
    · have w := w.2.2.1 c
      refine fv_tswIn (pc' := 77) (ft_d o_FT_writeReport 15 rfl) (by omega) (by omega) (by rw [c]; rfl) rfl ?_
      refine fv_aload_n (ft_d o_FT_writeReport 23 rfl) rfl rfl ?_
      refine fv_iconst (ft_d o_FT_writeReport 24 rfl) rfl rfl ?_
      obtain ⟨R5, c6, w⟩ := w
      refine fv_callv (st := []) rfl rfl (ft_mm (pre := [.inl 2, .inr (.inr 0)]) rfl) (ft_rnV (K' := k_FT_settle) (As := [.inl 2]) (ft_d o_FT_writeReport 25 rfl) ml_FT_150 li_FT_settle.1 li_FT_settle.2 lw_FT_settle ⟨rfl, rfl, Nat.le_of_ble_eq_true rfl, Nat.le_of_ble_eq_true rfl⟩ sh_0 rfl rfl rfl rfl (Nat.le_of_ble_eq_true rfl) c6) (fun h5 hw => ?_)
      have w := w h5 hw
      refine fv_aload_n (ft_d o_FT_writeReport 26 rfl) rfl rfl ?_
      refine fv_getR (b := 294) (ft_d o_FT_writeReport 27 rfl) rfl fl_FT_83 sh_0 rfl ly_0_12 ?_
      refine fv_aload_n (ft_d o_FT_writeReport 28 rfl) rfl rfl ?_
      refine fv_getR (b := 133) (ft_d o_FT_writeReport 29 rfl) rfl fl_FT_59 sh_0 rfl ly_0_8 ?_
      obtain ⟨R7, c8, w⟩ := w
      refine fv_callv (st := []) rfl rfl (ft_mm (pre := [.inr (.inr 133), .inr (.inr 294)]) rfl) (ft_rnV (K' := k_Re_addPrefixes) (As := [.inr (.inr 133)]) (ft_d o_FT_writeReport 30 rfl) ml_FT_340 li_Re_addPrefixes.1 li_Re_addPrefixes.2 lw_Re_addPrefixes ⟨rfl, rfl, Nat.le_of_ble_eq_true rfl, Nat.le_of_ble_eq_true rfl⟩ sh_294 rfl rfl rfl rfl (Nat.le_of_ble_eq_true rfl) c8) (fun h6 hw => ?_)
      have w := w h6 hw
      refine fv_goto (pc' := 149) (ft_d o_FT_writeReport 31 rfl) rfl ?_
      exact fv_return (ft_d o_FT_writeReport 55 rfl) rfl w
    · have w := w.2.2.2.1 c
      refine fv_tswIn (pc' := 96) (ft_d o_FT_writeReport 15 rfl) (by omega) (by omega) (by rw [c]; rfl) rfl ?_
      refine fv_aload_n (ft_d o_FT_writeReport 32 rfl) rfl rfl ?_
      refine fv_iconst (ft_d o_FT_writeReport 33 rfl) rfl rfl ?_
      obtain ⟨R9, c10, w⟩ := w
      refine fv_callv (st := []) rfl rfl (ft_mm (pre := [.inl 3, .inr (.inr 0)]) rfl) (ft_rnV (K' := k_FT_settle) (As := [.inl 3]) (ft_d o_FT_writeReport 34 rfl) ml_FT_150 li_FT_settle.1 li_FT_settle.2 lw_FT_settle ⟨rfl, rfl, Nat.le_of_ble_eq_true rfl, Nat.le_of_ble_eq_true rfl⟩ sh_0 rfl rfl rfl rfl (Nat.le_of_ble_eq_true rfl) c10) (fun h7 hw => ?_)
      have w := w h7 hw
      refine fv_aload_n (ft_d o_FT_writeReport 35 rfl) rfl rfl ?_
      refine fv_getR (b := 294) (ft_d o_FT_writeReport 36 rfl) rfl fl_FT_83 sh_0 rfl ly_0_12 ?_
      refine fv_aload_n (ft_d o_FT_writeReport 37 rfl) rfl rfl ?_
      refine fv_getR (b := 143) (ft_d o_FT_writeReport 38 rfl) rfl fl_FT_69 sh_0 rfl ly_0_10 ?_
      refine fv_getR (b := 145) (ft_d o_FT_writeReport 39 rfl) rfl fl_FT_231 sh_143 rfl ly_143_1 ?_
      obtain ⟨R11, c12, w⟩ := w
      refine fv_callv (st := []) rfl rfl (ft_mm (pre := [.inr (.inr 145), .inr (.inr 294)]) rfl) (ft_rnV (K' := k_Re_addPrefixes) (As := [.inr (.inr 145)]) (ft_d o_FT_writeReport 40 rfl) ml_FT_340 li_Re_addPrefixes.1 li_Re_addPrefixes.2 lw_Re_addPrefixes ⟨rfl, rfl, Nat.le_of_ble_eq_true rfl, Nat.le_of_ble_eq_true rfl⟩ sh_294 rfl rfl rfl rfl (Nat.le_of_ble_eq_true rfl) c12) (fun h8 hw => ?_)
      have w := w h8 hw
      refine fv_goto (pc' := 149) (ft_d o_FT_writeReport 41 rfl) rfl ?_
      exact fv_return (ft_d o_FT_writeReport 55 rfl) rfl w
    · have w := w.2.2.2.2 c
      refine fv_tswIn (pc' := 118) (ft_d o_FT_writeReport 15 rfl) (by omega) (by omega) (by rw [c]; rfl) rfl ?_
      refine fv_aload_n (ft_d o_FT_writeReport 42 rfl) rfl rfl ?_
      refine fv_getR (b := 294) (ft_d o_FT_writeReport 43 rfl) rfl fl_FT_83 sh_0 rfl ly_0_12 ?_
      refine fv_aload_n (ft_d o_FT_writeReport 44 rfl) rfl rfl ?_
      refine fv_getR (b := 1) (ft_d o_FT_writeReport 45 rfl) rfl fl_FT_12 sh_0 rfl ly_0_0 ?_
      refine fv_getR (b := 5) (ft_d o_FT_writeReport 46 rfl) rfl fl_FT_132 sh_1 rfl ly_1_2 ?_
      obtain ⟨R13, c14, w⟩ := w
      refine fv_callv (st := []) rfl rfl (ft_mm (pre := [.inr (.inr 5), .inr (.inr 294)]) rfl) (ft_rnV (K' := k_Re_addPrefixes) (As := [.inr (.inr 5)]) (ft_d o_FT_writeReport 47 rfl) ml_FT_340 li_Re_addPrefixes.1 li_Re_addPrefixes.2 lw_Re_addPrefixes ⟨rfl, rfl, Nat.le_of_ble_eq_true rfl, Nat.le_of_ble_eq_true rfl⟩ sh_294 rfl rfl rfl rfl (Nat.le_of_ble_eq_true rfl) c14) (fun h9 hw => ?_)
      have w := w h9 hw
      refine fv_goto (pc' := 149) (ft_d o_FT_writeReport 48 rfl) rfl ?_
      exact fv_return (ft_d o_FT_writeReport 55 rfl) rfl w
  · have w := w.2 c
    exact fv_return (ft_d o_FT_writeReport 5 rfl) rfl w
set_option maxRecDepth 20000 in
theorem b_FT_answerFor_0 {x1 : Int} {h : ftH} {R : Option ftV → ftH → Prop} 
    (w : (∃ R1 : Option ftV → ftH → Prop, ft_C k_PS_longest [.inr (.inr 2), .inr (.inl x1)] h R1 ∧ ∀ (z3 : Int) (h1 : ftH), ft_in z3 → R1 (some (.inl z3)) h1 → ((0 ≤ z3 → ((0 ≤ z3 ∧ z3 < 60) ∧ R (some (.inl (h1 4 z3.toNat))) h1)) ∧ (¬ (0 ≤ z3) → R (some (.inl 0)) h1)))) : ft_V k_FT_answerFor 0 [some (.inr (.inr 0)), some (.inr (.inl x1)), none, none] [] h R := by
  refine fv_aload_n (ft_d o_FT_answerFor 0 rfl) rfl rfl ?_
  refine fv_getR (b := 1) (ft_d o_FT_answerFor 1 rfl) rfl fl_FT_12 sh_0 rfl ly_0_0 ?_
  refine fv_getR (b := 2) (ft_d o_FT_answerFor 2 rfl) rfl fl_FT_122 sh_1 rfl ly_1_1 ?_
  refine fv_lload_n (ft_d o_FT_answerFor 3 rfl) rfl rfl ?_
  obtain ⟨R1, c2, w⟩ := w
  refine fv_calli (st := []) (Or.inl rfl) rfl (ft_mm (pre := [.inr (.inl x1), .inr (.inr 2)]) rfl) (ft_rnV (K' := k_PS_longest) (As := [.inr (.inl x1)]) (ft_d o_FT_answerFor 4 rfl) ml_FT_195 li_PS_longest.1 li_PS_longest.2 lw_PS_longest ⟨rfl, rfl, Nat.le_of_ble_eq_true rfl, Nat.le_of_ble_eq_true rfl⟩ sh_2 rfl rfl rfl rfl (Nat.le_of_ble_eq_true rfl) c2) (fun z3 h1 hz hw => ?_)
  have w := w z3 h1 hz hw
  refine fv_istore_n (L' := [some (.inr (.inr 0)), some (.inr (.inl x1)), none, some (.inl z3)]) (ft_d o_FT_answerFor 5 rfl) rfl (Nat.le_of_ble_eq_true rfl) rfl ?_
  refine fv_iload_n (ft_d o_FT_answerFor 6 rfl) rfl rfl ?_
  refine fv_if_ge (tgt := 20) (ft_d o_FT_answerFor 7 rfl) rfl rfl (fun c => ?_) (fun c => ?_)
  · have w := w.1 c
    refine fv_aload_n (ft_d o_FT_answerFor 10 rfl) rfl rfl ?_
    refine fv_getR (b := 1) (ft_d o_FT_answerFor 11 rfl) rfl fl_FT_12 sh_0 rfl ly_0_0 ?_
    refine fv_getR (b := 2) (ft_d o_FT_answerFor 12 rfl) rfl fl_FT_122 sh_1 rfl ly_1_1 ?_
    refine fv_getR (b := 4) (ft_d o_FT_answerFor 13 rfl) rfl fl_FT_179 sh_2 rfl ly_2_1 ?_
    refine fv_iload_n (ft_d o_FT_answerFor 14 rfl) rfl rfl ?_
    refine fv_iald (ft_d o_FT_answerFor 15 rfl) rfl sh_4 w.1 ?_
    have w := w.2
    exact fv_ireturn (ft_d o_FT_answerFor 16 rfl) rfl w
  · have w := w.2 c
    refine fv_iconst (ft_d o_FT_answerFor 8 rfl) rfl rfl ?_
    refine fv_goto (pc' := 32) (ft_d o_FT_answerFor 9 rfl) rfl ?_
    exact fv_ireturn (ft_d o_FT_answerFor 16 rfl) rfl w
set_option maxRecDepth 20000 in
theorem b_FT_changesNoAnswer_0 {x1 : Int} {h : ftH} {R : Option ftV → ftH → Prop} 
    (w : ((0 ≤ x1 ∧ x1 < 60) ∧ (∀ n1 : Int, n1 = h 117 x1.toNat → ((0 ≤ n1 → ((0 ≤ n1 ∧ n1 < 60) ∧ (∀ n2 : Int, n2 = h 4 n1.toNat → ((0 ≤ x1 ∧ x1 < 60) ∧ ((h 119 x1.toNat = 0 → R (some (.inl 1)) h) ∧ (¬ (h 119 x1.toNat = 0) → ((0 ≤ x1 ∧ x1 < 60) ∧ ((¬ (h 4 x1.toNat = n2) → R (some (.inl 0)) h) ∧ (h 4 x1.toNat = n2 → R (some (.inl 1)) h))))))))) ∧ (¬ (0 ≤ n1) → ((0 ≤ x1 ∧ x1 < 60) ∧ ((h 119 x1.toNat = 0 → R (some (.inl 1)) h) ∧ (¬ (h 119 x1.toNat = 0) → ((0 ≤ x1 ∧ x1 < 60) ∧ ((¬ (h 4 x1.toNat = 0) → R (some (.inl 0)) h) ∧ (h 4 x1.toNat = 0 → R (some (.inl 1)) h))))))))))) : ft_V k_FT_changesNoAnswer 0 [some (.inr (.inr 0)), some (.inl x1), none, none] [] h R := by
  refine fv_aload_n (ft_d o_FT_changesNoAnswer 0 rfl) rfl rfl ?_
  refine fv_getR (b := 115) (ft_d o_FT_changesNoAnswer 1 rfl) rfl fl_FT_45 sh_0 rfl ly_0_6 ?_
  refine fv_getR (b := 117) (ft_d o_FT_changesNoAnswer 2 rfl) rfl fl_FT_153 sh_115 rfl ly_115_0 ?_
  refine fv_iload_n (ft_d o_FT_changesNoAnswer 3 rfl) rfl rfl ?_
  refine fv_iald (ft_d o_FT_changesNoAnswer 4 rfl) rfl sh_117 w.1 ?_
  have w := w.2
  generalize en1 : h 117 x1.toNat = n1
  have w := w n1 en1.symm
  refine fv_istore_n (L' := [some (.inr (.inr 0)), some (.inl x1), some (.inl n1), none]) (ft_d o_FT_changesNoAnswer 5 rfl) rfl (Nat.le_of_ble_eq_true rfl) rfl ?_
  refine fv_iload_n (ft_d o_FT_changesNoAnswer 6 rfl) rfl rfl ?_
  refine fv_if_ge (tgt := 18) (ft_d o_FT_changesNoAnswer 7 rfl) rfl rfl (fun c => ?_) (fun c => ?_)
  · have w := w.1 c
    refine fv_aload_n (ft_d o_FT_changesNoAnswer 10 rfl) rfl rfl ?_
    refine fv_getR (b := 1) (ft_d o_FT_changesNoAnswer 11 rfl) rfl fl_FT_12 sh_0 rfl ly_0_0 ?_
    refine fv_getR (b := 2) (ft_d o_FT_changesNoAnswer 12 rfl) rfl fl_FT_122 sh_1 rfl ly_1_1 ?_
    refine fv_getR (b := 4) (ft_d o_FT_changesNoAnswer 13 rfl) rfl fl_FT_179 sh_2 rfl ly_2_1 ?_
    refine fv_iload_n (ft_d o_FT_changesNoAnswer 14 rfl) rfl rfl ?_
    refine fv_iald (ft_d o_FT_changesNoAnswer 15 rfl) rfl sh_4 w.1 ?_
    have w := w.2
    generalize en2 : h 4 n1.toNat = n2
    have w := w n2 en2.symm
    refine fv_istore_n (L' := [some (.inr (.inr 0)), some (.inl x1), some (.inl n1), some (.inl n2)]) (ft_d o_FT_changesNoAnswer 16 rfl) rfl (Nat.le_of_ble_eq_true rfl) rfl ?_
    refine fv_aload_n (ft_d o_FT_changesNoAnswer 17 rfl) rfl rfl ?_
    refine fv_getR (b := 115) (ft_d o_FT_changesNoAnswer 18 rfl) rfl fl_FT_45 sh_0 rfl ly_0_6 ?_
    refine fv_getR (b := 119) (ft_d o_FT_changesNoAnswer 19 rfl) rfl fl_FT_161 sh_115 rfl ly_115_2 ?_
    refine fv_iload_n (ft_d o_FT_changesNoAnswer 20 rfl) rfl rfl ?_
    refine fv_lald (ft_d o_FT_changesNoAnswer 21 rfl) rfl sh_119 w.1 ?_
    have w := w.2
    refine fv_lconst (z := 0) (ft_d o_FT_changesNoAnswer 22 rfl) rfl rfl ?_
    refine fv_lcmp_eq (tgt := 61) (ft_d o_FT_changesNoAnswer 23 rfl) (ft_d o_FT_changesNoAnswer 24 rfl) rfl rfl (fun c => ?_) (fun c => ?_)
    · have w := w.1 c
      refine fv_iconst (ft_d o_FT_changesNoAnswer 33 rfl) rfl rfl ?_
      refine fv_goto (pc' := 66) (ft_d o_FT_changesNoAnswer 34 rfl) rfl ?_
      exact fv_zreturn (ft_d o_FT_changesNoAnswer 36 rfl) rfl (Or.inr rfl) w
    · have w := w.2 c
      refine fv_aload_n (ft_d o_FT_changesNoAnswer 25 rfl) rfl rfl ?_
      refine fv_getR (b := 1) (ft_d o_FT_changesNoAnswer 26 rfl) rfl fl_FT_12 sh_0 rfl ly_0_0 ?_
      refine fv_getR (b := 2) (ft_d o_FT_changesNoAnswer 27 rfl) rfl fl_FT_122 sh_1 rfl ly_1_1 ?_
      refine fv_getR (b := 4) (ft_d o_FT_changesNoAnswer 28 rfl) rfl fl_FT_179 sh_2 rfl ly_2_1 ?_
      refine fv_iload_n (ft_d o_FT_changesNoAnswer 29 rfl) rfl rfl ?_
      refine fv_iald (ft_d o_FT_changesNoAnswer 30 rfl) rfl sh_4 w.1 ?_
      have w := w.2
      refine fv_iload_n (ft_d o_FT_changesNoAnswer 31 rfl) rfl rfl ?_
      refine fv_icmp_ne (tgt := 65) (ft_d o_FT_changesNoAnswer 32 rfl) rfl rfl (fun c => ?_) (fun c => ?_)
      · have w := w.1 c
        refine fv_iconst (ft_d o_FT_changesNoAnswer 35 rfl) rfl rfl ?_
        exact fv_zreturn (ft_d o_FT_changesNoAnswer 36 rfl) rfl (Or.inl rfl) w
      · have w := w.2 c
        refine fv_iconst (ft_d o_FT_changesNoAnswer 33 rfl) rfl rfl ?_
        refine fv_goto (pc' := 66) (ft_d o_FT_changesNoAnswer 34 rfl) rfl ?_
        exact fv_zreturn (ft_d o_FT_changesNoAnswer 36 rfl) rfl (Or.inr rfl) w
  · have w := w.2 c
    refine fv_iconst (ft_d o_FT_changesNoAnswer 8 rfl) rfl rfl ?_
    refine fv_goto (pc' := 30) (ft_d o_FT_changesNoAnswer 9 rfl) rfl ?_
    refine fv_istore_n (L' := [some (.inr (.inr 0)), some (.inl x1), some (.inl n1), some (.inl 0)]) (ft_d o_FT_changesNoAnswer 16 rfl) rfl (Nat.le_of_ble_eq_true rfl) rfl ?_
    refine fv_aload_n (ft_d o_FT_changesNoAnswer 17 rfl) rfl rfl ?_
    refine fv_getR (b := 115) (ft_d o_FT_changesNoAnswer 18 rfl) rfl fl_FT_45 sh_0 rfl ly_0_6 ?_
    refine fv_getR (b := 119) (ft_d o_FT_changesNoAnswer 19 rfl) rfl fl_FT_161 sh_115 rfl ly_115_2 ?_
    refine fv_iload_n (ft_d o_FT_changesNoAnswer 20 rfl) rfl rfl ?_
    refine fv_lald (ft_d o_FT_changesNoAnswer 21 rfl) rfl sh_119 w.1 ?_
    have w := w.2
    refine fv_lconst (z := 0) (ft_d o_FT_changesNoAnswer 22 rfl) rfl rfl ?_
    refine fv_lcmp_eq (tgt := 61) (ft_d o_FT_changesNoAnswer 23 rfl) (ft_d o_FT_changesNoAnswer 24 rfl) rfl rfl (fun c => ?_) (fun c => ?_)
    · have w := w.1 c
      refine fv_iconst (ft_d o_FT_changesNoAnswer 33 rfl) rfl rfl ?_
      refine fv_goto (pc' := 66) (ft_d o_FT_changesNoAnswer 34 rfl) rfl ?_
      exact fv_zreturn (ft_d o_FT_changesNoAnswer 36 rfl) rfl (Or.inr rfl) w
    · have w := w.2 c
      refine fv_aload_n (ft_d o_FT_changesNoAnswer 25 rfl) rfl rfl ?_
      refine fv_getR (b := 1) (ft_d o_FT_changesNoAnswer 26 rfl) rfl fl_FT_12 sh_0 rfl ly_0_0 ?_
      refine fv_getR (b := 2) (ft_d o_FT_changesNoAnswer 27 rfl) rfl fl_FT_122 sh_1 rfl ly_1_1 ?_
      refine fv_getR (b := 4) (ft_d o_FT_changesNoAnswer 28 rfl) rfl fl_FT_179 sh_2 rfl ly_2_1 ?_
      refine fv_iload_n (ft_d o_FT_changesNoAnswer 29 rfl) rfl rfl ?_
      refine fv_iald (ft_d o_FT_changesNoAnswer 30 rfl) rfl sh_4 w.1 ?_
      have w := w.2
      refine fv_iload_n (ft_d o_FT_changesNoAnswer 31 rfl) rfl rfl ?_
      refine fv_icmp_ne (tgt := 65) (ft_d o_FT_changesNoAnswer 32 rfl) rfl rfl (fun c => ?_) (fun c => ?_)
      · have w := w.1 c
        refine fv_iconst (ft_d o_FT_changesNoAnswer 35 rfl) rfl rfl ?_
        exact fv_zreturn (ft_d o_FT_changesNoAnswer 36 rfl) rfl (Or.inl rfl) w
      · have w := w.2 c
        refine fv_iconst (ft_d o_FT_changesNoAnswer 33 rfl) rfl rfl ?_
        refine fv_goto (pc' := 66) (ft_d o_FT_changesNoAnswer 34 rfl) rfl ?_
        exact fv_zreturn (ft_d o_FT_changesNoAnswer 36 rfl) rfl (Or.inr rfl) w
set_option maxRecDepth 20000 in
theorem b_FT_entriesWithout_0 {x1 : Int} {h : ftH} {R : Option ftV → ftH → Prop} 
    (w : (∃ R1 : Option ftV → ftH → Prop, ft_C k_PS_copyFrom [.inr (.inr 296), .inr (.inr 2)] h R1 ∧ ∀ h1 : ftH, R1 none h1 → (∃ R3 : Option ftV → ftH → Prop, ft_C k_PS_removeAt [.inr (.inr 296), .inl x1] h1 R3 ∧ ∀ h2 : ftH, R3 none h2 → (∃ R5 : Option ftV → ftH → Prop, ft_C k_Co_compress [.inr (.inr 122), .inr (.inr 296)] h2 R5 ∧ ∀ (z7 : Int) (h3 : ftH), ft_in z7 → R5 (some (.inl z7)) h3 → R (some (.inl z7)) h3)))) : ft_V k_FT_entriesWithout 0 [some (.inr (.inr 0)), some (.inl x1)] [] h R := by
  refine fv_aload_n (ft_d o_FT_entriesWithout 0 rfl) rfl rfl ?_
  refine fv_getR (b := 296) (ft_d o_FT_entriesWithout 1 rfl) rfl fl_FT_87 sh_0 rfl ly_0_13 ?_
  refine fv_aload_n (ft_d o_FT_entriesWithout 2 rfl) rfl rfl ?_
  refine fv_getR (b := 1) (ft_d o_FT_entriesWithout 3 rfl) rfl fl_FT_12 sh_0 rfl ly_0_0 ?_
  refine fv_getR (b := 2) (ft_d o_FT_entriesWithout 4 rfl) rfl fl_FT_122 sh_1 rfl ly_1_1 ?_
  obtain ⟨R1, c2, w⟩ := w
  refine fv_callv (st := []) rfl rfl (ft_mm (pre := [.inr (.inr 2), .inr (.inr 296)]) rfl) (ft_rnV (K' := k_PS_copyFrom) (As := [.inr (.inr 2)]) (ft_d o_FT_entriesWithout 5 rfl) ml_FT_261 li_PS_copyFrom.1 li_PS_copyFrom.2 lw_PS_copyFrom ⟨rfl, rfl, Nat.le_of_ble_eq_true rfl, Nat.le_of_ble_eq_true rfl⟩ sh_296 rfl rfl rfl rfl (Nat.le_of_ble_eq_true rfl) c2) (fun h1 hw => ?_)
  have w := w h1 hw
  refine fv_aload_n (ft_d o_FT_entriesWithout 6 rfl) rfl rfl ?_
  refine fv_getR (b := 296) (ft_d o_FT_entriesWithout 7 rfl) rfl fl_FT_87 sh_0 rfl ly_0_13 ?_
  refine fv_iload_n (ft_d o_FT_entriesWithout 8 rfl) rfl rfl ?_
  obtain ⟨R3, c4, w⟩ := w
  refine fv_callv (st := []) rfl rfl (ft_mm (pre := [.inl x1, .inr (.inr 296)]) rfl) (ft_rnV (K' := k_PS_removeAt) (As := [.inl x1]) (ft_d o_FT_entriesWithout 9 rfl) ml_FT_189 li_PS_removeAt.1 li_PS_removeAt.2 lw_PS_removeAt ⟨rfl, rfl, Nat.le_of_ble_eq_true rfl, Nat.le_of_ble_eq_true rfl⟩ sh_296 rfl rfl rfl rfl (Nat.le_of_ble_eq_true rfl) c4) (fun h2 hw => ?_)
  have w := w h2 hw
  refine fv_aload_n (ft_d o_FT_entriesWithout 10 rfl) rfl rfl ?_
  refine fv_getR (b := 122) (ft_d o_FT_entriesWithout 11 rfl) rfl fl_FT_52 sh_0 rfl ly_0_7 ?_
  refine fv_aload_n (ft_d o_FT_entriesWithout 12 rfl) rfl rfl ?_
  refine fv_getR (b := 296) (ft_d o_FT_entriesWithout 13 rfl) rfl fl_FT_87 sh_0 rfl ly_0_13 ?_
  obtain ⟨R5, c6, w⟩ := w
  refine fv_calli (st := []) (Or.inl rfl) rfl (ft_mm (pre := [.inr (.inr 296), .inr (.inr 122)]) rfl) (ft_rnV (K' := k_Co_compress) (As := [.inr (.inr 296)]) (ft_d o_FT_entriesWithout 14 rfl) ml_FT_309 li_Co_compress.1 li_Co_compress.2 lw_Co_compress ⟨rfl, rfl, Nat.le_of_ble_eq_true rfl, Nat.le_of_ble_eq_true rfl⟩ sh_122 rfl rfl rfl rfl (Nat.le_of_ble_eq_true rfl) c6) (fun z7 h3 hz hw => ?_)
  have w := w z7 h3 hz hw
  exact fv_ireturn (ft_d o_FT_entriesWithout 15 rfl) rfl w
