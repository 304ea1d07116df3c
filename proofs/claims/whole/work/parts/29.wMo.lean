/-! printed by wip/whole/gen/gen10.py: what must hold at each cut point -/
set_option maxRecDepth 20000 in
theorem b_Mo_keepsPast_0  {h : ftH} {R : Option ftV → ftH → Prop} 
    (w : ((¬ (h 309 4 = 8) → ft_V k_Mo_keepsPast 54 [some (.inr (.inr 309)), some (.inl 0)] [] h R) ∧ (h 309 4 = 8 → ft_V k_Mo_keepsPast 13 [some (.inr (.inr 309)), some (.inl 520)] [] h R))) : ft_V k_Mo_keepsPast 0 [some (.inr (.inr 309)), none] [] h R := by
  refine fv_aload_n (ft_d o_Mo_keepsPast 0 rfl) rfl rfl ?_
  refine fv_getI (ft_d o_Mo_keepsPast 1 rfl) rfl fl_Mo_87 sh_309 rfl ?_
  refine fv_bipush (ft_d o_Mo_keepsPast 2 rfl) rfl rfl ?_
  refine fv_icmp_ne (tgt := 52) (ft_d o_Mo_keepsPast 3 rfl) rfl rfl (fun c => ?_) (fun c => ?_)
  · have w := w.1 c
    refine fv_iconst (ft_d o_Mo_keepsPast 27 rfl) rfl rfl ?_
    refine fv_istore_n (L' := [some (.inr (.inr 309)), some (.inl 0)]) (ft_d o_Mo_keepsPast 28 rfl) rfl (Nat.le_of_ble_eq_true rfl) rfl ?_
    exact w
  · have w := w.2 c
    refine fv_sipush (ft_d o_Mo_keepsPast 4 rfl) rfl rfl ?_
    refine fv_istore_n (L' := [some (.inr (.inr 309)), some (.inl 520)]) (ft_d o_Mo_keepsPast 5 rfl) rfl (Nat.le_of_ble_eq_true rfl) rfl ?_
    exact w
set_option maxRecDepth 20000 in
theorem b_Mo_keepsPast_13 {x1 : Int} {h : ftH} {R : Option ftV → ftH → Prop} 
    (w : ((4160 ≤ x1 → (∀ h1 : ftH, h1 = ft_hs h 309 4 (ft_sub (h 309 4) 1) → ft_V k_Mo_keepsPast 54 [some (.inr (.inr 309)), some (.inl 0)] [] h1 R)) ∧ (¬ (4160 ≤ x1) → ((0 ≤ x1 ∧ x1 < 4160) ∧ ((0 ≤ ft_sub x1 520 ∧ ft_sub x1 520 < 4160) ∧ (∀ h2 : ftH, h2 = ft_hs h 311 (ft_sub x1 520).toNat (h 311 x1.toNat) → ft_V k_Mo_keepsPast 13 [some (.inr (.inr 309)), some (.inl (ft_add x1 1))] [] h2 R)))))) : ft_V k_Mo_keepsPast 13 [some (.inr (.inr 309)), some (.inl x1)] [] h R := by
  refine fv_iload_n (ft_d o_Mo_keepsPast 6 rfl) rfl rfl ?_
  refine fv_sipush (ft_d o_Mo_keepsPast 7 rfl) rfl rfl ?_
  refine fv_icmp_ge (tgt := 42) (ft_d o_Mo_keepsPast 8 rfl) rfl rfl (fun c => ?_) (fun c => ?_)
  · have w := w.1 c
    refine fv_aload_n (ft_d o_Mo_keepsPast 21 rfl) rfl rfl ?_
    refine fv_dup (ft_d o_Mo_keepsPast 22 rfl) rfl rfl ?_
    refine fv_getI (ft_d o_Mo_keepsPast 23 rfl) rfl fl_Mo_87 sh_309 rfl ?_
    refine fv_iconst (ft_d o_Mo_keepsPast 24 rfl) rfl rfl ?_
    refine fv_isub (ft_d o_Mo_keepsPast 25 rfl) rfl ?_
    refine fv_putI (ft_d o_Mo_keepsPast 26 rfl) rfl fl_Mo_87 rfl rfl sh_309 rfl ?_
    generalize eh1 : ft_hs h 309 4 (ft_sub (h 309 4) 1) = h1
    have w := w h1 eh1.symm
    refine fv_iconst (ft_d o_Mo_keepsPast 27 rfl) rfl rfl ?_
    refine fv_istore_n (L' := [some (.inr (.inr 309)), some (.inl 0)]) (ft_d o_Mo_keepsPast 28 rfl) rfl (Nat.le_of_ble_eq_true rfl) rfl ?_
    exact w
  · have w := w.2 c
    refine fv_aload_n (ft_d o_Mo_keepsPast 9 rfl) rfl rfl ?_
    refine fv_getR (b := 311) (ft_d o_Mo_keepsPast 10 rfl) rfl fl_Mo_17 sh_309 rfl ly_309_2 ?_
    refine fv_iload_n (ft_d o_Mo_keepsPast 11 rfl) rfl rfl ?_
    refine fv_sipush (ft_d o_Mo_keepsPast 12 rfl) rfl rfl ?_
    refine fv_isub (ft_d o_Mo_keepsPast 13 rfl) rfl ?_
    refine fv_aload_n (ft_d o_Mo_keepsPast 14 rfl) rfl rfl ?_
    refine fv_getR (b := 311) (ft_d o_Mo_keepsPast 15 rfl) rfl fl_Mo_17 sh_309 rfl ly_309_2 ?_
    refine fv_iload_n (ft_d o_Mo_keepsPast 16 rfl) rfl rfl ?_
    refine fv_iald (ft_d o_Mo_keepsPast 17 rfl) rfl sh_311 w.1 ?_
    have w := w.2
    refine fv_iast (ft_d o_Mo_keepsPast 18 rfl) rfl sh_311 w.1 ?_
    have w := w.2
    generalize eh2 : ft_hs h 311 (ft_sub x1 520).toNat (h 311 x1.toNat) = h2
    have w := w h2 eh2.symm
    refine fv_iinc (L' := [some (.inr (.inr 309)), some (.inl (ft_add x1 1))]) (ft_d o_Mo_keepsPast 19 rfl) rfl rfl (Nat.le_of_ble_eq_true rfl) rfl ?_
    refine fv_goto (pc' := 13) (ft_d o_Mo_keepsPast 20 rfl) rfl ?_
    exact w
set_option maxRecDepth 20000 in
theorem b_Mo_keepsPast_54 {x1 : Int} {h : ftH} {R : Option ftV → ftH → Prop} 
    (w : ((520 ≤ x1 → (∀ h1 : ftH, h1 = ft_hs h 309 4 (ft_add (h 309 4) 1) → (∀ h2 : ftH, h2 = ft_hs h1 309 20 0 → R none h2))) ∧ (¬ (520 ≤ x1) → ((0 ≤ x1 ∧ x1 < 520) ∧ ((0 ≤ ft_add (ft_mul 520 (h 309 4)) x1 ∧ ft_add (ft_mul 520 (h 309 4)) x1 < 4160) ∧ (∀ h3 : ftH, h3 = ft_hs h 311 (ft_add (ft_mul 520 (h 309 4)) x1).toNat (h 310 x1.toNat) → ft_V k_Mo_keepsPast 54 [some (.inr (.inr 309)), some (.inl (ft_add x1 1))] [] h3 R)))))) : ft_V k_Mo_keepsPast 54 [some (.inr (.inr 309)), some (.inl x1)] [] h R := by
  refine fv_iload_n (ft_d o_Mo_keepsPast 29 rfl) rfl rfl ?_
  refine fv_sipush (ft_d o_Mo_keepsPast 30 rfl) rfl rfl ?_
  refine fv_icmp_ge (tgt := 88) (ft_d o_Mo_keepsPast 31 rfl) rfl rfl (fun c => ?_) (fun c => ?_)
  · have w := w.1 c
    refine fv_aload_n (ft_d o_Mo_keepsPast 47 rfl) rfl rfl ?_
    refine fv_dup (ft_d o_Mo_keepsPast 48 rfl) rfl rfl ?_
    refine fv_getI (ft_d o_Mo_keepsPast 49 rfl) rfl fl_Mo_87 sh_309 rfl ?_
    refine fv_iconst (ft_d o_Mo_keepsPast 50 rfl) rfl rfl ?_
    refine fv_iadd (ft_d o_Mo_keepsPast 51 rfl) rfl ?_
    refine fv_putI (ft_d o_Mo_keepsPast 52 rfl) rfl fl_Mo_87 rfl rfl sh_309 rfl ?_
    generalize eh1 : ft_hs h 309 4 (ft_add (h 309 4) 1) = h1
    have w := w h1 eh1.symm
    refine fv_aload_n (ft_d o_Mo_keepsPast 53 rfl) rfl rfl ?_
    refine fv_iconst (ft_d o_Mo_keepsPast 54 rfl) rfl rfl ?_
    refine fv_putZ (ft_d o_Mo_keepsPast 55 rfl) rfl fl_Mo_90 rfl rfl sh_309 rfl (Or.inl rfl) ?_
    generalize eh2 : ft_hs h1 309 20 0 = h2
    have w := w h2 eh2.symm
    exact fv_return (ft_d o_Mo_keepsPast 56 rfl) rfl w
  · have w := w.2 c
    refine fv_aload_n (ft_d o_Mo_keepsPast 32 rfl) rfl rfl ?_
    refine fv_getR (b := 311) (ft_d o_Mo_keepsPast 33 rfl) rfl fl_Mo_17 sh_309 rfl ly_309_2 ?_
    refine fv_sipush (ft_d o_Mo_keepsPast 34 rfl) rfl rfl ?_
    refine fv_aload_n (ft_d o_Mo_keepsPast 35 rfl) rfl rfl ?_
    refine fv_getI (ft_d o_Mo_keepsPast 36 rfl) rfl fl_Mo_87 sh_309 rfl ?_
    refine fv_imul (ft_d o_Mo_keepsPast 37 rfl) rfl ?_
    refine fv_iload_n (ft_d o_Mo_keepsPast 38 rfl) rfl rfl ?_
    refine fv_iadd (ft_d o_Mo_keepsPast 39 rfl) rfl ?_
    refine fv_aload_n (ft_d o_Mo_keepsPast 40 rfl) rfl rfl ?_
    refine fv_getR (b := 310) (ft_d o_Mo_keepsPast 41 rfl) rfl fl_Mo_13 sh_309 rfl ly_309_1 ?_
    refine fv_iload_n (ft_d o_Mo_keepsPast 42 rfl) rfl rfl ?_
    refine fv_iald (ft_d o_Mo_keepsPast 43 rfl) rfl sh_310 w.1 ?_
    have w := w.2
    refine fv_iast (ft_d o_Mo_keepsPast 44 rfl) rfl sh_311 w.1 ?_
    have w := w.2
    generalize eh3 : ft_hs h 311 (ft_add (ft_mul 520 (h 309 4)) x1).toNat (h 310 x1.toNat) = h3
    have w := w h3 eh3.symm
    refine fv_iinc (L' := [some (.inr (.inr 309)), some (.inl (ft_add x1 1))]) (ft_d o_Mo_keepsPast 45 rfl) rfl rfl (Nat.le_of_ble_eq_true rfl) rfl ?_
    refine fv_goto (pc' := 54) (ft_d o_Mo_keepsPast 46 rfl) rfl ?_
    exact w
set_option maxRecDepth 20000 in
theorem b_Mo_undo_0  {h : ftH} {R : Option ftV → ftH → Prop} 
    (w : ((¬ (h 309 4 = 0) → (∀ h1 : ftH, h1 = ft_hs h 309 4 (ft_sub (h 309 4) 1) → ft_V k_Mo_undo 21 [some (.inr (.inr 309)), some (.inl 0)] [] h1 R)) ∧ (h 309 4 = 0 → R (some (.inl ((-1)))) h))) : ft_V k_Mo_undo 0 [some (.inr (.inr 309)), none] [] h R := by
  refine fv_aload_n (ft_d o_Mo_undo 0 rfl) rfl rfl ?_
  refine fv_getI (ft_d o_Mo_undo 1 rfl) rfl fl_Mo_87 sh_309 rfl ?_
  refine fv_if_ne (tgt := 9) (ft_d o_Mo_undo 2 rfl) rfl rfl (fun c => ?_) (fun c => ?_)
  · have w := w.1 c
    refine fv_aload_n (ft_d o_Mo_undo 5 rfl) rfl rfl ?_
    refine fv_dup (ft_d o_Mo_undo 6 rfl) rfl rfl ?_
    refine fv_getI (ft_d o_Mo_undo 7 rfl) rfl fl_Mo_87 sh_309 rfl ?_
    refine fv_iconst (ft_d o_Mo_undo 8 rfl) rfl rfl ?_
    refine fv_isub (ft_d o_Mo_undo 9 rfl) rfl ?_
    refine fv_putI (ft_d o_Mo_undo 10 rfl) rfl fl_Mo_87 rfl rfl sh_309 rfl ?_
    generalize eh1 : ft_hs h 309 4 (ft_sub (h 309 4) 1) = h1
    have w := w h1 eh1.symm
    refine fv_iconst (ft_d o_Mo_undo 11 rfl) rfl rfl ?_
    refine fv_istore_n (L' := [some (.inr (.inr 309)), some (.inl 0)]) (ft_d o_Mo_undo 12 rfl) rfl (Nat.le_of_ble_eq_true rfl) rfl ?_
    exact w
  · have w := w.2 c
    refine fv_iconst (ft_d o_Mo_undo 3 rfl) rfl rfl ?_
    exact fv_ireturn (ft_d o_Mo_undo 4 rfl) rfl w
set_option maxRecDepth 20000 in
theorem b_Mo_undo_21 {x1 : Int} {h : ftH} {R : Option ftV → ftH → Prop} 
    (w : ((520 ≤ x1 → (∀ h1 : ftH, h1 = ft_hs h 309 20 0 → R (some (.inl (h1 309 4))) h1)) ∧ (¬ (520 ≤ x1) → ((0 ≤ ft_add (ft_mul 520 (h 309 4)) x1 ∧ ft_add (ft_mul 520 (h 309 4)) x1 < 4160) ∧ ((0 ≤ x1 ∧ x1 < 520) ∧ (∀ h2 : ftH, h2 = ft_hs h 310 x1.toNat (h 311 (ft_add (ft_mul 520 (h 309 4)) x1).toNat) → ft_V k_Mo_undo 21 [some (.inr (.inr 309)), some (.inl (ft_add x1 1))] [] h2 R)))))) : ft_V k_Mo_undo 21 [some (.inr (.inr 309)), some (.inl x1)] [] h R := by
  refine fv_iload_n (ft_d o_Mo_undo 13 rfl) rfl rfl ?_
  refine fv_sipush (ft_d o_Mo_undo 14 rfl) rfl rfl ?_
  refine fv_icmp_ge (tgt := 55) (ft_d o_Mo_undo 15 rfl) rfl rfl (fun c => ?_) (fun c => ?_)
  · have w := w.1 c
    refine fv_aload_n (ft_d o_Mo_undo 31 rfl) rfl rfl ?_
    refine fv_iconst (ft_d o_Mo_undo 32 rfl) rfl rfl ?_
    refine fv_putZ (ft_d o_Mo_undo 33 rfl) rfl fl_Mo_90 rfl rfl sh_309 rfl (Or.inl rfl) ?_
    generalize eh1 : ft_hs h 309 20 0 = h1
    have w := w h1 eh1.symm
    refine fv_aload_n (ft_d o_Mo_undo 34 rfl) rfl rfl ?_
    refine fv_getI (ft_d o_Mo_undo 35 rfl) rfl fl_Mo_87 sh_309 rfl ?_
    exact fv_ireturn (ft_d o_Mo_undo 36 rfl) rfl w
  · have w := w.2 c
    refine fv_aload_n (ft_d o_Mo_undo 16 rfl) rfl rfl ?_
    refine fv_getR (b := 310) (ft_d o_Mo_undo 17 rfl) rfl fl_Mo_13 sh_309 rfl ly_309_1 ?_
    refine fv_iload_n (ft_d o_Mo_undo 18 rfl) rfl rfl ?_
    refine fv_aload_n (ft_d o_Mo_undo 19 rfl) rfl rfl ?_
    refine fv_getR (b := 311) (ft_d o_Mo_undo 20 rfl) rfl fl_Mo_17 sh_309 rfl ly_309_2 ?_
    refine fv_sipush (ft_d o_Mo_undo 21 rfl) rfl rfl ?_
    refine fv_aload_n (ft_d o_Mo_undo 22 rfl) rfl rfl ?_
    refine fv_getI (ft_d o_Mo_undo 23 rfl) rfl fl_Mo_87 sh_309 rfl ?_
    refine fv_imul (ft_d o_Mo_undo 24 rfl) rfl ?_
    refine fv_iload_n (ft_d o_Mo_undo 25 rfl) rfl rfl ?_
    refine fv_iadd (ft_d o_Mo_undo 26 rfl) rfl ?_
    refine fv_iald (ft_d o_Mo_undo 27 rfl) rfl sh_311 w.1 ?_
    have w := w.2
    refine fv_iast (ft_d o_Mo_undo 28 rfl) rfl sh_310 w.1 ?_
    have w := w.2
    generalize eh2 : ft_hs h 310 x1.toNat (h 311 (ft_add (ft_mul 520 (h 309 4)) x1).toNat) = h2
    have w := w h2 eh2.symm
    refine fv_iinc (L' := [some (.inr (.inr 309)), some (.inl (ft_add x1 1))]) (ft_d o_Mo_undo 29 rfl) rfl rfl (Nat.le_of_ble_eq_true rfl) rfl ?_
    refine fv_goto (pc' := 21) (ft_d o_Mo_undo 30 rfl) rfl ?_
    exact w
set_option maxRecDepth 20000 in
theorem b_Mo_placeOf_0 {x1 : Int} {x2 : Int} {x3 : Int} {x4 : Int} {h : ftH} {R : Option ftV → ftH → Prop} 
    (w : ft_V k_Mo_placeOf 3 [some (.inr (.inr 309)), some (.inl x1), some (.inl x2), some (.inl x3), some (.inl x4), some (.inl 0)] [] h R) : ft_V k_Mo_placeOf 0 [some (.inr (.inr 309)), some (.inl x1), some (.inl x2), some (.inl x3), some (.inl x4), none] [] h R := by
  refine fv_iconst (ft_d o_Mo_placeOf 0 rfl) rfl rfl ?_
  refine fv_istore (L' := [some (.inr (.inr 309)), some (.inl x1), some (.inl x2), some (.inl x3), some (.inl x4), some (.inl 0)]) (ft_d o_Mo_placeOf 1 rfl) rfl (Nat.le_of_ble_eq_true rfl) rfl ?_
  exact w
set_option maxRecDepth 20000 in
theorem b_Mo_placeOf_3 {x1 : Int} {x2 : Int} {x3 : Int} {x4 : Int} {x5 : Int} {h : ftH} {R : Option ftV → ftH → Prop} 
    (w : ((x2 ≤ x5 → R (some (.inl ((-2)))) h) ∧ (¬ (x2 ≤ x5) → ((0 ≤ ft_add x1 (ft_mul 3 x5) ∧ ft_add x1 (ft_mul 3 x5) < 520) ∧ ((¬ (h 310 (ft_add x1 (ft_mul 3 x5)).toNat = x3) → ft_V k_Mo_placeOf 3 [some (.inr (.inr 309)), some (.inl x1), some (.inl x2), some (.inl x3), some (.inl x4), some (.inl (ft_add x5 1))] [] h R) ∧ (h 310 (ft_add x1 (ft_mul 3 x5)).toNat = x3 → ((0 ≤ ft_add (ft_add x1 (ft_mul 3 x5)) 1 ∧ ft_add (ft_add x1 (ft_mul 3 x5)) 1 < 520) ∧ ((¬ (h 310 (ft_add (ft_add x1 (ft_mul 3 x5)) 1).toNat = x4) → ft_V k_Mo_placeOf 3 [some (.inr (.inr 309)), some (.inl x1), some (.inl x2), some (.inl x3), some (.inl x4), some (.inl (ft_add x5 1))] [] h R) ∧ (h 310 (ft_add (ft_add x1 (ft_mul 3 x5)) 1).toNat = x4 → R (some (.inl x5)) h))))))))) : ft_V k_Mo_placeOf 3 [some (.inr (.inr 309)), some (.inl x1), some (.inl x2), some (.inl x3), some (.inl x4), some (.inl x5)] [] h R := by
  refine fv_iload (ft_d o_Mo_placeOf 2 rfl) rfl rfl ?_
  refine fv_iload_n (ft_d o_Mo_placeOf 3 rfl) rfl rfl ?_
  refine fv_icmp_ge (tgt := 51) (ft_d o_Mo_placeOf 4 rfl) rfl rfl (fun c => ?_) (fun c => ?_)
  · have w := w.1 c
    refine fv_bipush (ft_d o_Mo_placeOf 31 rfl) rfl rfl ?_
    exact fv_ireturn (ft_d o_Mo_placeOf 32 rfl) rfl w
  · have w := w.2 c
    refine fv_aload_n (ft_d o_Mo_placeOf 5 rfl) rfl rfl ?_
    refine fv_getR (b := 310) (ft_d o_Mo_placeOf 6 rfl) rfl fl_Mo_13 sh_309 rfl ly_309_1 ?_
    refine fv_iload_n (ft_d o_Mo_placeOf 7 rfl) rfl rfl ?_
    refine fv_iconst (ft_d o_Mo_placeOf 8 rfl) rfl rfl ?_
    refine fv_iload (ft_d o_Mo_placeOf 9 rfl) rfl rfl ?_
    refine fv_imul (ft_d o_Mo_placeOf 10 rfl) rfl ?_
    refine fv_iadd (ft_d o_Mo_placeOf 11 rfl) rfl ?_
    refine fv_iald (ft_d o_Mo_placeOf 12 rfl) rfl sh_310 w.1 ?_
    have w := w.2
    refine fv_iload_n (ft_d o_Mo_placeOf 13 rfl) rfl rfl ?_
    refine fv_icmp_ne (tgt := 45) (ft_d o_Mo_placeOf 14 rfl) rfl rfl (fun c => ?_) (fun c => ?_)
    · have w := w.1 c
      refine fv_iinc (L' := [some (.inr (.inr 309)), some (.inl x1), some (.inl x2), some (.inl x3), some (.inl x4), some (.inl (ft_add x5 1))]) (ft_d o_Mo_placeOf 29 rfl) rfl rfl (Nat.le_of_ble_eq_true rfl) rfl ?_
      refine fv_goto (pc' := 3) (ft_d o_Mo_placeOf 30 rfl) rfl ?_
      exact w
    · have w := w.2 c
      refine fv_aload_n (ft_d o_Mo_placeOf 15 rfl) rfl rfl ?_
      refine fv_getR (b := 310) (ft_d o_Mo_placeOf 16 rfl) rfl fl_Mo_13 sh_309 rfl ly_309_1 ?_
      refine fv_iload_n (ft_d o_Mo_placeOf 17 rfl) rfl rfl ?_
      refine fv_iconst (ft_d o_Mo_placeOf 18 rfl) rfl rfl ?_
      refine fv_iload (ft_d o_Mo_placeOf 19 rfl) rfl rfl ?_
      refine fv_imul (ft_d o_Mo_placeOf 20 rfl) rfl ?_
      refine fv_iadd (ft_d o_Mo_placeOf 21 rfl) rfl ?_
      refine fv_iconst (ft_d o_Mo_placeOf 22 rfl) rfl rfl ?_
      refine fv_iadd (ft_d o_Mo_placeOf 23 rfl) rfl ?_
      refine fv_iald (ft_d o_Mo_placeOf 24 rfl) rfl sh_310 w.1 ?_
      have w := w.2
      refine fv_iload (ft_d o_Mo_placeOf 25 rfl) rfl rfl ?_
      refine fv_icmp_ne (tgt := 45) (ft_d o_Mo_placeOf 26 rfl) rfl rfl (fun c => ?_) (fun c => ?_)
      · have w := w.1 c
        refine fv_iinc (L' := [some (.inr (.inr 309)), some (.inl x1), some (.inl x2), some (.inl x3), some (.inl x4), some (.inl (ft_add x5 1))]) (ft_d o_Mo_placeOf 29 rfl) rfl rfl (Nat.le_of_ble_eq_true rfl) rfl ?_
        refine fv_goto (pc' := 3) (ft_d o_Mo_placeOf 30 rfl) rfl ?_
        exact w
      · have w := w.2 c
        refine fv_iload (ft_d o_Mo_placeOf 27 rfl) rfl rfl ?_
        exact fv_ireturn (ft_d o_Mo_placeOf 28 rfl) rfl w
set_option maxRecDepth 20000 in
theorem b_Mo_longest_0 {x1 : Int} {x2 : Int} {x3 : Int} {x4 : Int} {h : ftH} {R : Option ftV → ftH → Prop} 
    (w : (∀ n1 : Int, n1 = (-2) → ft_V k_Mo_longest 7 [some (.inr (.inr 309)), some (.inl x1), some (.inl x2), some (.inl x3), some (.inl x4), some (.inl n1), some (.inl 0), none] [] h R)) : ft_V k_Mo_longest 0 [some (.inr (.inr 309)), some (.inl x1), some (.inl x2), some (.inl x3), some (.inl x4), none, none, none] [] h R := by
  refine fv_bipush (ft_d o_Mo_longest 0 rfl) rfl rfl ?_
  generalize en1 : (-2) = n1
  have w := w n1 en1.symm
  refine fv_istore (L' := [some (.inr (.inr 309)), some (.inl x1), some (.inl x2), some (.inl x3), some (.inl x4), some (.inl n1), none, none]) (ft_d o_Mo_longest 1 rfl) rfl (Nat.le_of_ble_eq_true rfl) rfl ?_
  refine fv_iconst (ft_d o_Mo_longest 2 rfl) rfl rfl ?_
  refine fv_istore (L' := [some (.inr (.inr 309)), some (.inl x1), some (.inl x2), some (.inl x3), some (.inl x4), some (.inl n1), some (.inl 0), none]) (ft_d o_Mo_longest 3 rfl) rfl (Nat.le_of_ble_eq_true rfl) rfl ?_
  exact w
set_option maxRecDepth 20000 in
theorem b_Mo_longest_7 {x1 : Int} {x2 : Int} {x3 : Int} {x4 : Int} {x5 : Int} {x6 : Int} {h : ftH} {R : Option ftV → ftH → Prop} 
    (w : ((x2 ≤ x6 → R (some (.inl x5)) h) ∧ (¬ (x2 ≤ x6) → ((0 ≤ ft_add (ft_add x1 (ft_mul 3 x6)) 1 ∧ ft_add (ft_add x1 (ft_mul 3 x6)) 1 < 520) ∧ (∀ n1 : Int, n1 = h 310 (ft_add (ft_add x1 (ft_mul 3 x6)) 1).toNat → ((x4 ≤ n1 → ft_V k_Mo_longest 7 [some (.inr (.inr 309)), some (.inl x1), some (.inl x2), some (.inl x3), some (.inl x4), some (.inl x5), some (.inl (ft_add x6 1)), none] [] h R) ∧ (¬ (x4 ≤ n1) → ((0 ≤ ft_add x1 (ft_mul 3 x6) ∧ ft_add x1 (ft_mul 3 x6) < 520) ∧ ((0 ≤ n1 ∧ n1 ≤ 32) ∧ ((¬ (pUn (h 310 (ft_add x1 (ft_mul 3 x6)).toNat) / pSz n1 = pUn x3 / pSz n1) → ft_V k_Mo_longest 7 [some (.inr (.inr 309)), some (.inl x1), some (.inl x2), some (.inl x3), some (.inl x4), some (.inl x5), some (.inl (ft_add x6 1)), none] [] h R) ∧ (pUn (h 310 (ft_add x1 (ft_mul 3 x6)).toNat) / pSz n1 = pUn x3 / pSz n1 → ((x5 < 0 → ft_V k_Mo_longest 7 [some (.inr (.inr 309)), some (.inl x1), some (.inl x2), some (.inl x3), some (.inl x4), some (.inl x6), some (.inl (ft_add x6 1)), none] [] h R) ∧ (¬ (x5 < 0) → ((0 ≤ ft_add (ft_add x1 (ft_mul 3 x5)) 1 ∧ ft_add (ft_add x1 (ft_mul 3 x5)) 1 < 520) ∧ ((n1 ≤ h 310 (ft_add (ft_add x1 (ft_mul 3 x5)) 1).toNat → ft_V k_Mo_longest 7 [some (.inr (.inr 309)), some (.inl x1), some (.inl x2), some (.inl x3), some (.inl x4), some (.inl x5), some (.inl (ft_add x6 1)), none] [] h R) ∧ (¬ (n1 ≤ h 310 (ft_add (ft_add x1 (ft_mul 3 x5)) 1).toNat) → ft_V k_Mo_longest 7 [some (.inr (.inr 309)), some (.inl x1), some (.inl x2), some (.inl x3), some (.inl x4), some (.inl x6), some (.inl (ft_add x6 1)), none] [] h R)))))))))))))))) : ft_V k_Mo_longest 7 [some (.inr (.inr 309)), some (.inl x1), some (.inl x2), some (.inl x3), some (.inl x4), some (.inl x5), some (.inl x6), none] [] h R := by
  refine fv_iload (ft_d o_Mo_longest 4 rfl) rfl rfl ?_
  refine fv_iload_n (ft_d o_Mo_longest 5 rfl) rfl rfl ?_
  refine fv_icmp_ge (tgt := 88) (ft_d o_Mo_longest 6 rfl) rfl rfl (fun c => ?_) (fun c => ?_)
  · have w := w.1 c
    refine fv_iload (ft_d o_Mo_longest 51 rfl) rfl rfl ?_
    exact fv_ireturn (ft_d o_Mo_longest 52 rfl) rfl w
  · have w := w.2 c
    refine fv_aload_n (ft_d o_Mo_longest 7 rfl) rfl rfl ?_
    refine fv_getR (b := 310) (ft_d o_Mo_longest 8 rfl) rfl fl_Mo_13 sh_309 rfl ly_309_1 ?_
    refine fv_iload_n (ft_d o_Mo_longest 9 rfl) rfl rfl ?_
    refine fv_iconst (ft_d o_Mo_longest 10 rfl) rfl rfl ?_
    refine fv_iload (ft_d o_Mo_longest 11 rfl) rfl rfl ?_
    refine fv_imul (ft_d o_Mo_longest 12 rfl) rfl ?_
    refine fv_iadd (ft_d o_Mo_longest 13 rfl) rfl ?_
    refine fv_iconst (ft_d o_Mo_longest 14 rfl) rfl rfl ?_
    refine fv_iadd (ft_d o_Mo_longest 15 rfl) rfl ?_
    refine fv_iald (ft_d o_Mo_longest 16 rfl) rfl sh_310 w.1 ?_
    have w := w.2
    generalize en1 : h 310 (ft_add (ft_add x1 (ft_mul 3 x6)) 1).toNat = n1
    have w := w n1 en1.symm
    refine fv_istore (L' := [some (.inr (.inr 309)), some (.inl x1), some (.inl x2), some (.inl x3), some (.inl x4), some (.inl x5), some (.inl x6), some (.inl n1)]) (ft_d o_Mo_longest 17 rfl) rfl (Nat.le_of_ble_eq_true rfl) rfl ?_
    refine fv_iload (ft_d o_Mo_longest 18 rfl) rfl rfl ?_
    refine fv_iload (ft_d o_Mo_longest 19 rfl) rfl rfl ?_
    refine fv_icmp_ge (tgt := 82) (ft_d o_Mo_longest 20 rfl) rfl rfl (fun c => ?_) (fun c => ?_)
    · have w := w.1 c
      refine fv_iinc (L' := [some (.inr (.inr 309)), some (.inl x1), some (.inl x2), some (.inl x3), some (.inl x4), some (.inl x5), some (.inl (ft_add x6 1)), some (.inl n1)]) (ft_d o_Mo_longest 49 rfl) rfl rfl (Nat.le_of_ble_eq_true rfl) rfl ?_
      refine fv_goto (pc' := 7) (ft_d o_Mo_longest 50 rfl) rfl ?_
      refine fv_mask (M := [true, true, true, true, true, true, true, false]) rfl ?_
      exact w
    · have w := w.2 c
      refine fv_aload_n (ft_d o_Mo_longest 21 rfl) rfl rfl ?_
      refine fv_getR (b := 310) (ft_d o_Mo_longest 22 rfl) rfl fl_Mo_13 sh_309 rfl ly_309_1 ?_
      refine fv_iload_n (ft_d o_Mo_longest 23 rfl) rfl rfl ?_
      refine fv_iconst (ft_d o_Mo_longest 24 rfl) rfl rfl ?_
      refine fv_iload (ft_d o_Mo_longest 25 rfl) rfl rfl ?_
      refine fv_imul (ft_d o_Mo_longest 26 rfl) rfl ?_
      refine fv_iadd (ft_d o_Mo_longest 27 rfl) rfl ?_
      refine fv_iald (ft_d o_Mo_longest 28 rfl) rfl sh_310 w.1 ?_
      have w := w.2
      refine fv_iload (ft_d o_Mo_longest 29 rfl) rfl rfl ?_
      refine fv_iload_n (ft_d o_Mo_longest 30 rfl) rfl rfl ?_
      refine fv_callif (st := []) (z := (if pUn (h 310 (ft_add x1 (ft_mul 3 x6)).toNat) / pSz n1 = pUn x3 / pSz n1 then 1 else 0)) (Or.inr rfl) rfl (ft_mm (pre := [.inl x3, .inl n1, .inl (h 310 (ft_add x1 (ft_mul 3 x6)).toNat)]) rfl) (ft_rnS (K' := k_Mo_contains) (As := [.inl (h 310 (ft_add x1 (ft_mul 3 x6)).toNat), .inl n1, .inl x3]) (ft_d o_Mo_longest 31 rfl) ml_Mo_110 lz_Mo_contains rfl lw_Mo_contains ⟨rfl, rfl, Nat.le_of_ble_eq_true rfl, Nat.le_of_ble_eq_true rfl⟩ rfl rfl (Nat.le_of_ble_eq_true rfl) (c_Mo_contains w.1)) ?_
      have w := w.2
      refine fv_if_eq (tgt := 82) (ft_d o_Mo_longest 32 rfl) rfl rfl (fun c => ?_) (fun c => ?_)
      · have w := w.1 (ft_if0.mp c)
        refine fv_iinc (L' := [some (.inr (.inr 309)), some (.inl x1), some (.inl x2), some (.inl x3), some (.inl x4), some (.inl x5), some (.inl (ft_add x6 1)), some (.inl n1)]) (ft_d o_Mo_longest 49 rfl) rfl rfl (Nat.le_of_ble_eq_true rfl) rfl ?_
        refine fv_goto (pc' := 7) (ft_d o_Mo_longest 50 rfl) rfl ?_
        refine fv_mask (M := [true, true, true, true, true, true, true, false]) rfl ?_
        exact w
      · have w := w.2 (ft_if1.mp c)
        refine fv_iload (ft_d o_Mo_longest 33 rfl) rfl rfl ?_
        refine fv_if_lt (tgt := 78) (ft_d o_Mo_longest 34 rfl) rfl rfl (fun c => ?_) (fun c => ?_)
        · have w := w.1 c
          refine fv_iload (ft_d o_Mo_longest 47 rfl) rfl rfl ?_
          refine fv_istore (L' := [some (.inr (.inr 309)), some (.inl x1), some (.inl x2), some (.inl x3), some (.inl x4), some (.inl x6), some (.inl x6), some (.inl n1)]) (ft_d o_Mo_longest 48 rfl) rfl (Nat.le_of_ble_eq_true rfl) rfl ?_
          refine fv_iinc (L' := [some (.inr (.inr 309)), some (.inl x1), some (.inl x2), some (.inl x3), some (.inl x4), some (.inl x6), some (.inl (ft_add x6 1)), some (.inl n1)]) (ft_d o_Mo_longest 49 rfl) rfl rfl (Nat.le_of_ble_eq_true rfl) rfl ?_
          refine fv_goto (pc' := 7) (ft_d o_Mo_longest 50 rfl) rfl ?_
          refine fv_mask (M := [true, true, true, true, true, true, true, false]) rfl ?_
          exact w
        · have w := w.2 c
          refine fv_iload (ft_d o_Mo_longest 35 rfl) rfl rfl ?_
          refine fv_aload_n (ft_d o_Mo_longest 36 rfl) rfl rfl ?_
          refine fv_getR (b := 310) (ft_d o_Mo_longest 37 rfl) rfl fl_Mo_13 sh_309 rfl ly_309_1 ?_
          refine fv_iload_n (ft_d o_Mo_longest 38 rfl) rfl rfl ?_
          refine fv_iconst (ft_d o_Mo_longest 39 rfl) rfl rfl ?_
          refine fv_iload (ft_d o_Mo_longest 40 rfl) rfl rfl ?_
          refine fv_imul (ft_d o_Mo_longest 41 rfl) rfl ?_
          refine fv_iadd (ft_d o_Mo_longest 42 rfl) rfl ?_
          refine fv_iconst (ft_d o_Mo_longest 43 rfl) rfl rfl ?_
          refine fv_iadd (ft_d o_Mo_longest 44 rfl) rfl ?_
          refine fv_iald (ft_d o_Mo_longest 45 rfl) rfl sh_310 w.1 ?_
          have w := w.2
          refine fv_icmp_le (tgt := 82) (ft_d o_Mo_longest 46 rfl) rfl rfl (fun c => ?_) (fun c => ?_)
          · have w := w.1 c
            refine fv_iinc (L' := [some (.inr (.inr 309)), some (.inl x1), some (.inl x2), some (.inl x3), some (.inl x4), some (.inl x5), some (.inl (ft_add x6 1)), some (.inl n1)]) (ft_d o_Mo_longest 49 rfl) rfl rfl (Nat.le_of_ble_eq_true rfl) rfl ?_
            refine fv_goto (pc' := 7) (ft_d o_Mo_longest 50 rfl) rfl ?_
            refine fv_mask (M := [true, true, true, true, true, true, true, false]) rfl ?_
            exact w
          · have w := w.2 c
            refine fv_iload (ft_d o_Mo_longest 47 rfl) rfl rfl ?_
            refine fv_istore (L' := [some (.inr (.inr 309)), some (.inl x1), some (.inl x2), some (.inl x3), some (.inl x4), some (.inl x6), some (.inl x6), some (.inl n1)]) (ft_d o_Mo_longest 48 rfl) rfl (Nat.le_of_ble_eq_true rfl) rfl ?_
            refine fv_iinc (L' := [some (.inr (.inr 309)), some (.inl x1), some (.inl x2), some (.inl x3), some (.inl x4), some (.inl x6), some (.inl (ft_add x6 1)), some (.inl n1)]) (ft_d o_Mo_longest 49 rfl) rfl rfl (Nat.le_of_ble_eq_true rfl) rfl ?_
            refine fv_goto (pc' := 7) (ft_d o_Mo_longest 50 rfl) rfl ?_
            refine fv_mask (M := [true, true, true, true, true, true, true, false]) rfl ?_
            exact w
set_option maxRecDepth 20000 in
theorem b_Mo_putsIn_0 {x1 : Int} {x2 : Int} {x3 : Int} {x4 : Int} {x5 : Int} {h : ftH} {R : Option ftV → ftH → Prop} 
    (w : ft_V k_Mo_putsIn 3 [some (.inr (.inr 309)), some (.inl x1), none, some (.inl x3), some (.inl x4), some (.inl x5), some (.inl x2), none] [] h R) : ft_V k_Mo_putsIn 0 [some (.inr (.inr 309)), some (.inl x1), some (.inl x2), some (.inl x3), some (.inl x4), some (.inl x5), none, none] [] h R := by
  refine fv_iload_n (ft_d o_Mo_putsIn 0 rfl) rfl rfl ?_
  refine fv_istore (L' := [some (.inr (.inr 309)), some (.inl x1), some (.inl x2), some (.inl x3), some (.inl x4), some (.inl x5), some (.inl x2), none]) (ft_d o_Mo_putsIn 1 rfl) rfl (Nat.le_of_ble_eq_true rfl) rfl ?_
  refine fv_mask (M := [true, true, false, true, true, true, true, false]) rfl ?_
  exact w
set_option maxRecDepth 20000 in
theorem b_Mo_putsIn_3 {x1 : Int} {x3 : Int} {x4 : Int} {x5 : Int} {x6 : Int} {h : ftH} {R : Option ftV → ftH → Prop} 
    (w : ((x6 ≤ 0 → ((0 ≤ ft_add x1 (ft_mul 3 x6) ∧ ft_add x1 (ft_mul 3 x6) < 520) ∧ (∀ h1 : ftH, h1 = ft_hs h 310 (ft_add x1 (ft_mul 3 x6)).toNat x3 → ((0 ≤ ft_add (ft_add x1 (ft_mul 3 x6)) 1 ∧ ft_add (ft_add x1 (ft_mul 3 x6)) 1 < 520) ∧ (∀ h2 : ftH, h2 = ft_hs h1 310 (ft_add (ft_add x1 (ft_mul 3 x6)) 1).toNat x4 → ((0 ≤ ft_add (ft_add x1 (ft_mul 3 x6)) 2 ∧ ft_add (ft_add x1 (ft_mul 3 x6)) 2 < 520) ∧ (∀ h3 : ftH, h3 = ft_hs h2 310 (ft_add (ft_add x1 (ft_mul 3 x6)) 2).toNat x5 → R none h3))))))) ∧ (¬ (x6 ≤ 0) → ((0 ≤ ft_sub (ft_add x1 (ft_mul 3 x6)) 3 ∧ ft_sub (ft_add x1 (ft_mul 3 x6)) 3 < 520) ∧ ((0 ≤ ft_sub (ft_add x1 (ft_mul 3 x6)) 2 ∧ ft_sub (ft_add x1 (ft_mul 3 x6)) 2 < 520) ∧ (((0 ≤ x4 ∧ x4 ≤ 32) ∧ (0 ≤ (h 310 (ft_sub (ft_add x1 (ft_mul 3 x6)) 2).toNat) ∧ (h 310 (ft_sub (ft_add x1 (ft_mul 3 x6)) 2).toNat) ≤ 32)) ∧ ((¬ (64 * pUn x3 + x4 < 64 * pUn (h 310 (ft_sub (ft_add x1 (ft_mul 3 x6)) 3).toNat) + (h 310 (ft_sub (ft_add x1 (ft_mul 3 x6)) 2).toNat)) → ((0 ≤ ft_add x1 (ft_mul 3 x6) ∧ ft_add x1 (ft_mul 3 x6) < 520) ∧ (∀ h4 : ftH, h4 = ft_hs h 310 (ft_add x1 (ft_mul 3 x6)).toNat x3 → ((0 ≤ ft_add (ft_add x1 (ft_mul 3 x6)) 1 ∧ ft_add (ft_add x1 (ft_mul 3 x6)) 1 < 520) ∧ (∀ h5 : ftH, h5 = ft_hs h4 310 (ft_add (ft_add x1 (ft_mul 3 x6)) 1).toNat x4 → ((0 ≤ ft_add (ft_add x1 (ft_mul 3 x6)) 2 ∧ ft_add (ft_add x1 (ft_mul 3 x6)) 2 < 520) ∧ (∀ h6 : ftH, h6 = ft_hs h5 310 (ft_add (ft_add x1 (ft_mul 3 x6)) 2).toNat x5 → R none h6))))))) ∧ (64 * pUn x3 + x4 < 64 * pUn (h 310 (ft_sub (ft_add x1 (ft_mul 3 x6)) 3).toNat) + (h 310 (ft_sub (ft_add x1 (ft_mul 3 x6)) 2).toNat) → ft_V k_Mo_putsIn 46 [some (.inr (.inr 309)), some (.inl x1), none, some (.inl x3), some (.inl x4), some (.inl x5), some (.inl x6), some (.inl 0)] [] h R)))))))) : ft_V k_Mo_putsIn 3 [some (.inr (.inr 309)), some (.inl x1), none, some (.inl x3), some (.inl x4), some (.inl x5), some (.inl x6), none] [] h R := by
  refine fv_iload (ft_d o_Mo_putsIn 2 rfl) rfl rfl ?_
  refine fv_if_le (tgt := 94) (ft_d o_Mo_putsIn 3 rfl) rfl rfl (fun c => ?_) (fun c => ?_)
  · have w := w.1 c
    refine fv_aload_n (ft_d o_Mo_putsIn 59 rfl) rfl rfl ?_
    refine fv_getR (b := 310) (ft_d o_Mo_putsIn 60 rfl) rfl fl_Mo_13 sh_309 rfl ly_309_1 ?_
    refine fv_iload_n (ft_d o_Mo_putsIn 61 rfl) rfl rfl ?_
    refine fv_iconst (ft_d o_Mo_putsIn 62 rfl) rfl rfl ?_
    refine fv_iload (ft_d o_Mo_putsIn 63 rfl) rfl rfl ?_
    refine fv_imul (ft_d o_Mo_putsIn 64 rfl) rfl ?_
    refine fv_iadd (ft_d o_Mo_putsIn 65 rfl) rfl ?_
    refine fv_iload_n (ft_d o_Mo_putsIn 66 rfl) rfl rfl ?_
    refine fv_iast (ft_d o_Mo_putsIn 67 rfl) rfl sh_310 w.1 ?_
    have w := w.2
    generalize eh1 : ft_hs h 310 (ft_add x1 (ft_mul 3 x6)).toNat x3 = h1
    have w := w h1 eh1.symm
    refine fv_aload_n (ft_d o_Mo_putsIn 68 rfl) rfl rfl ?_
    refine fv_getR (b := 310) (ft_d o_Mo_putsIn 69 rfl) rfl fl_Mo_13 sh_309 rfl ly_309_1 ?_
    refine fv_iload_n (ft_d o_Mo_putsIn 70 rfl) rfl rfl ?_
    refine fv_iconst (ft_d o_Mo_putsIn 71 rfl) rfl rfl ?_
    refine fv_iload (ft_d o_Mo_putsIn 72 rfl) rfl rfl ?_
    refine fv_imul (ft_d o_Mo_putsIn 73 rfl) rfl ?_
    refine fv_iadd (ft_d o_Mo_putsIn 74 rfl) rfl ?_
    refine fv_iconst (ft_d o_Mo_putsIn 75 rfl) rfl rfl ?_
    refine fv_iadd (ft_d o_Mo_putsIn 76 rfl) rfl ?_
    refine fv_iload (ft_d o_Mo_putsIn 77 rfl) rfl rfl ?_
    refine fv_iast (ft_d o_Mo_putsIn 78 rfl) rfl sh_310 w.1 ?_
    have w := w.2
    generalize eh2 : ft_hs h1 310 (ft_add (ft_add x1 (ft_mul 3 x6)) 1).toNat x4 = h2
    have w := w h2 eh2.symm
    refine fv_aload_n (ft_d o_Mo_putsIn 79 rfl) rfl rfl ?_
    refine fv_getR (b := 310) (ft_d o_Mo_putsIn 80 rfl) rfl fl_Mo_13 sh_309 rfl ly_309_1 ?_
    refine fv_iload_n (ft_d o_Mo_putsIn 81 rfl) rfl rfl ?_
    refine fv_iconst (ft_d o_Mo_putsIn 82 rfl) rfl rfl ?_
    refine fv_iload (ft_d o_Mo_putsIn 83 rfl) rfl rfl ?_
    refine fv_imul (ft_d o_Mo_putsIn 84 rfl) rfl ?_
    refine fv_iadd (ft_d o_Mo_putsIn 85 rfl) rfl ?_
    refine fv_iconst (ft_d o_Mo_putsIn 86 rfl) rfl rfl ?_
    refine fv_iadd (ft_d o_Mo_putsIn 87 rfl) rfl ?_
    refine fv_iload (ft_d o_Mo_putsIn 88 rfl) rfl rfl ?_
    refine fv_iast (ft_d o_Mo_putsIn 89 rfl) rfl sh_310 w.1 ?_
    have w := w.2
    generalize eh3 : ft_hs h2 310 (ft_add (ft_add x1 (ft_mul 3 x6)) 2).toNat x5 = h3
    have w := w h3 eh3.symm
    exact fv_return (ft_d o_Mo_putsIn 90 rfl) rfl w
  · have w := w.2 c
    refine fv_iload_n (ft_d o_Mo_putsIn 4 rfl) rfl rfl ?_
    refine fv_iload (ft_d o_Mo_putsIn 5 rfl) rfl rfl ?_
    refine fv_aload_n (ft_d o_Mo_putsIn 6 rfl) rfl rfl ?_
    refine fv_getR (b := 310) (ft_d o_Mo_putsIn 7 rfl) rfl fl_Mo_13 sh_309 rfl ly_309_1 ?_
    refine fv_iload_n (ft_d o_Mo_putsIn 8 rfl) rfl rfl ?_
    refine fv_iconst (ft_d o_Mo_putsIn 9 rfl) rfl rfl ?_
    refine fv_iload (ft_d o_Mo_putsIn 10 rfl) rfl rfl ?_
    refine fv_imul (ft_d o_Mo_putsIn 11 rfl) rfl ?_
    refine fv_iadd (ft_d o_Mo_putsIn 12 rfl) rfl ?_
    refine fv_iconst (ft_d o_Mo_putsIn 13 rfl) rfl rfl ?_
    refine fv_isub (ft_d o_Mo_putsIn 14 rfl) rfl ?_
    refine fv_iald (ft_d o_Mo_putsIn 15 rfl) rfl sh_310 w.1 ?_
    have w := w.2
    refine fv_aload_n (ft_d o_Mo_putsIn 16 rfl) rfl rfl ?_
    refine fv_getR (b := 310) (ft_d o_Mo_putsIn 17 rfl) rfl fl_Mo_13 sh_309 rfl ly_309_1 ?_
    refine fv_iload_n (ft_d o_Mo_putsIn 18 rfl) rfl rfl ?_
    refine fv_iconst (ft_d o_Mo_putsIn 19 rfl) rfl rfl ?_
    refine fv_iload (ft_d o_Mo_putsIn 20 rfl) rfl rfl ?_
    refine fv_imul (ft_d o_Mo_putsIn 21 rfl) rfl ?_
    refine fv_iadd (ft_d o_Mo_putsIn 22 rfl) rfl ?_
    refine fv_iconst (ft_d o_Mo_putsIn 23 rfl) rfl rfl ?_
    refine fv_isub (ft_d o_Mo_putsIn 24 rfl) rfl ?_
    refine fv_iald (ft_d o_Mo_putsIn 25 rfl) rfl sh_310 w.1 ?_
    have w := w.2
    refine fv_callif (st := []) (z := (if 64 * pUn x3 + x4 < 64 * pUn (h 310 (ft_sub (ft_add x1 (ft_mul 3 x6)) 3).toNat) + (h 310 (ft_sub (ft_add x1 (ft_mul 3 x6)) 2).toNat) then 1 else 0)) (Or.inr rfl) rfl (ft_mm (pre := [.inl (h 310 (ft_sub (ft_add x1 (ft_mul 3 x6)) 2).toNat), .inl (h 310 (ft_sub (ft_add x1 (ft_mul 3 x6)) 3).toNat), .inl x4, .inl x3]) rfl) (ft_rnS (K' := k_Mo_isAhead) (As := [.inl x3, .inl x4, .inl (h 310 (ft_sub (ft_add x1 (ft_mul 3 x6)) 3).toNat), .inl (h 310 (ft_sub (ft_add x1 (ft_mul 3 x6)) 2).toNat)]) (ft_d o_Mo_putsIn 26 rfl) ml_Mo_114 lz_Mo_isAhead rfl lw_Mo_isAhead ⟨rfl, rfl, Nat.le_of_ble_eq_true rfl, Nat.le_of_ble_eq_true rfl⟩ rfl rfl (Nat.le_of_ble_eq_true rfl) (c_Mo_isAhead w.1)) ?_
    have w := w.2
    refine fv_if_eq (tgt := 94) (ft_d o_Mo_putsIn 27 rfl) rfl rfl (fun c => ?_) (fun c => ?_)
    · have w := w.1 (ft_if0.mp c)
      refine fv_aload_n (ft_d o_Mo_putsIn 59 rfl) rfl rfl ?_
      refine fv_getR (b := 310) (ft_d o_Mo_putsIn 60 rfl) rfl fl_Mo_13 sh_309 rfl ly_309_1 ?_
      refine fv_iload_n (ft_d o_Mo_putsIn 61 rfl) rfl rfl ?_
      refine fv_iconst (ft_d o_Mo_putsIn 62 rfl) rfl rfl ?_
      refine fv_iload (ft_d o_Mo_putsIn 63 rfl) rfl rfl ?_
      refine fv_imul (ft_d o_Mo_putsIn 64 rfl) rfl ?_
      refine fv_iadd (ft_d o_Mo_putsIn 65 rfl) rfl ?_
      refine fv_iload_n (ft_d o_Mo_putsIn 66 rfl) rfl rfl ?_
      refine fv_iast (ft_d o_Mo_putsIn 67 rfl) rfl sh_310 w.1 ?_
      have w := w.2
      generalize eh4 : ft_hs h 310 (ft_add x1 (ft_mul 3 x6)).toNat x3 = h4
      have w := w h4 eh4.symm
      refine fv_aload_n (ft_d o_Mo_putsIn 68 rfl) rfl rfl ?_
      refine fv_getR (b := 310) (ft_d o_Mo_putsIn 69 rfl) rfl fl_Mo_13 sh_309 rfl ly_309_1 ?_
      refine fv_iload_n (ft_d o_Mo_putsIn 70 rfl) rfl rfl ?_
      refine fv_iconst (ft_d o_Mo_putsIn 71 rfl) rfl rfl ?_
      refine fv_iload (ft_d o_Mo_putsIn 72 rfl) rfl rfl ?_
      refine fv_imul (ft_d o_Mo_putsIn 73 rfl) rfl ?_
      refine fv_iadd (ft_d o_Mo_putsIn 74 rfl) rfl ?_
      refine fv_iconst (ft_d o_Mo_putsIn 75 rfl) rfl rfl ?_
      refine fv_iadd (ft_d o_Mo_putsIn 76 rfl) rfl ?_
      refine fv_iload (ft_d o_Mo_putsIn 77 rfl) rfl rfl ?_
      refine fv_iast (ft_d o_Mo_putsIn 78 rfl) rfl sh_310 w.1 ?_
      have w := w.2
      generalize eh5 : ft_hs h4 310 (ft_add (ft_add x1 (ft_mul 3 x6)) 1).toNat x4 = h5
      have w := w h5 eh5.symm
      refine fv_aload_n (ft_d o_Mo_putsIn 79 rfl) rfl rfl ?_
      refine fv_getR (b := 310) (ft_d o_Mo_putsIn 80 rfl) rfl fl_Mo_13 sh_309 rfl ly_309_1 ?_
      refine fv_iload_n (ft_d o_Mo_putsIn 81 rfl) rfl rfl ?_
      refine fv_iconst (ft_d o_Mo_putsIn 82 rfl) rfl rfl ?_
      refine fv_iload (ft_d o_Mo_putsIn 83 rfl) rfl rfl ?_
      refine fv_imul (ft_d o_Mo_putsIn 84 rfl) rfl ?_
      refine fv_iadd (ft_d o_Mo_putsIn 85 rfl) rfl ?_
      refine fv_iconst (ft_d o_Mo_putsIn 86 rfl) rfl rfl ?_
      refine fv_iadd (ft_d o_Mo_putsIn 87 rfl) rfl ?_
      refine fv_iload (ft_d o_Mo_putsIn 88 rfl) rfl rfl ?_
      refine fv_iast (ft_d o_Mo_putsIn 89 rfl) rfl sh_310 w.1 ?_
      have w := w.2
      generalize eh6 : ft_hs h5 310 (ft_add (ft_add x1 (ft_mul 3 x6)) 2).toNat x5 = h6
      have w := w h6 eh6.symm
      exact fv_return (ft_d o_Mo_putsIn 90 rfl) rfl w
    · have w := w.2 (ft_if1.mp c)
      refine fv_iconst (ft_d o_Mo_putsIn 28 rfl) rfl rfl ?_
      refine fv_istore (L' := [some (.inr (.inr 309)), some (.inl x1), none, some (.inl x3), some (.inl x4), some (.inl x5), some (.inl x6), some (.inl 0)]) (ft_d o_Mo_putsIn 29 rfl) rfl (Nat.le_of_ble_eq_true rfl) rfl ?_
      exact w
set_option maxRecDepth 20000 in
theorem b_Mo_putsIn_46 {x1 : Int} {x3 : Int} {x4 : Int} {x5 : Int} {x6 : Int} {x7 : Int} {h : ftH} {R : Option ftV → ftH → Prop} 
    (w : ((3 ≤ x7 → ft_V k_Mo_putsIn 3 [some (.inr (.inr 309)), some (.inl x1), none, some (.inl x3), some (.inl x4), some (.inl x5), some (.inl (ft_add x6 (-1))), none] [] h R) ∧ (¬ (3 ≤ x7) → ((0 ≤ ft_add (ft_sub (ft_add x1 (ft_mul 3 x6)) 3) x7 ∧ ft_add (ft_sub (ft_add x1 (ft_mul 3 x6)) 3) x7 < 520) ∧ ((0 ≤ ft_add (ft_add x1 (ft_mul 3 x6)) x7 ∧ ft_add (ft_add x1 (ft_mul 3 x6)) x7 < 520) ∧ (∀ h1 : ftH, h1 = ft_hs h 310 (ft_add (ft_add x1 (ft_mul 3 x6)) x7).toNat (h 310 (ft_add (ft_sub (ft_add x1 (ft_mul 3 x6)) 3) x7).toNat) → ft_V k_Mo_putsIn 46 [some (.inr (.inr 309)), some (.inl x1), none, some (.inl x3), some (.inl x4), some (.inl x5), some (.inl x6), some (.inl (ft_add x7 1))] [] h1 R)))))) : ft_V k_Mo_putsIn 46 [some (.inr (.inr 309)), some (.inl x1), none, some (.inl x3), some (.inl x4), some (.inl x5), some (.inl x6), some (.inl x7)] [] h R := by
  refine fv_iload (ft_d o_Mo_putsIn 30 rfl) rfl rfl ?_
  refine fv_iconst (ft_d o_Mo_putsIn 31 rfl) rfl rfl ?_
  refine fv_icmp_ge (tgt := 88) (ft_d o_Mo_putsIn 32 rfl) rfl rfl (fun c => ?_) (fun c => ?_)
  · have w := w.1 c
    refine fv_iinc (L' := [some (.inr (.inr 309)), some (.inl x1), none, some (.inl x3), some (.inl x4), some (.inl x5), some (.inl (ft_add x6 (-1))), some (.inl x7)]) (ft_d o_Mo_putsIn 57 rfl) rfl rfl (Nat.le_of_ble_eq_true rfl) rfl ?_
    refine fv_goto (pc' := 3) (ft_d o_Mo_putsIn 58 rfl) rfl ?_
    refine fv_mask (M := [true, true, false, true, true, true, true, false]) rfl ?_
    exact w
  · have w := w.2 c
    refine fv_aload_n (ft_d o_Mo_putsIn 33 rfl) rfl rfl ?_
    refine fv_getR (b := 310) (ft_d o_Mo_putsIn 34 rfl) rfl fl_Mo_13 sh_309 rfl ly_309_1 ?_
    refine fv_iload_n (ft_d o_Mo_putsIn 35 rfl) rfl rfl ?_
    refine fv_iconst (ft_d o_Mo_putsIn 36 rfl) rfl rfl ?_
    refine fv_iload (ft_d o_Mo_putsIn 37 rfl) rfl rfl ?_
    refine fv_imul (ft_d o_Mo_putsIn 38 rfl) rfl ?_
    refine fv_iadd (ft_d o_Mo_putsIn 39 rfl) rfl ?_
    refine fv_iload (ft_d o_Mo_putsIn 40 rfl) rfl rfl ?_
    refine fv_iadd (ft_d o_Mo_putsIn 41 rfl) rfl ?_
    refine fv_aload_n (ft_d o_Mo_putsIn 42 rfl) rfl rfl ?_
    refine fv_getR (b := 310) (ft_d o_Mo_putsIn 43 rfl) rfl fl_Mo_13 sh_309 rfl ly_309_1 ?_
    refine fv_iload_n (ft_d o_Mo_putsIn 44 rfl) rfl rfl ?_
    refine fv_iconst (ft_d o_Mo_putsIn 45 rfl) rfl rfl ?_
    refine fv_iload (ft_d o_Mo_putsIn 46 rfl) rfl rfl ?_
    refine fv_imul (ft_d o_Mo_putsIn 47 rfl) rfl ?_
    refine fv_iadd (ft_d o_Mo_putsIn 48 rfl) rfl ?_
    refine fv_iconst (ft_d o_Mo_putsIn 49 rfl) rfl rfl ?_
    refine fv_isub (ft_d o_Mo_putsIn 50 rfl) rfl ?_
    refine fv_iload (ft_d o_Mo_putsIn 51 rfl) rfl rfl ?_
    refine fv_iadd (ft_d o_Mo_putsIn 52 rfl) rfl ?_
    refine fv_iald (ft_d o_Mo_putsIn 53 rfl) rfl sh_310 w.1 ?_
    have w := w.2
    refine fv_iast (ft_d o_Mo_putsIn 54 rfl) rfl sh_310 w.1 ?_
    have w := w.2
    generalize eh1 : ft_hs h 310 (ft_add (ft_add x1 (ft_mul 3 x6)) x7).toNat (h 310 (ft_add (ft_sub (ft_add x1 (ft_mul 3 x6)) 3) x7).toNat) = h1
    have w := w h1 eh1.symm
    refine fv_iinc (L' := [some (.inr (.inr 309)), some (.inl x1), none, some (.inl x3), some (.inl x4), some (.inl x5), some (.inl x6), some (.inl (ft_add x7 1))]) (ft_d o_Mo_putsIn 55 rfl) rfl rfl (Nat.le_of_ble_eq_true rfl) rfl ?_
    refine fv_goto (pc' := 46) (ft_d o_Mo_putsIn 56 rfl) rfl ?_
    exact w
set_option maxRecDepth 20000 in
theorem b_Mo_takesOut_0 {x1 : Int} {x2 : Int} {x3 : Int} {h : ftH} {R : Option ftV → ftH → Prop} 
    (w : (∀ n1 : Int, n1 = ft_add x1 (ft_mul 3 x3) → ft_V k_Mo_takesOut 7 [some (.inr (.inr 309)), some (.inl x1), some (.inl x2), none, some (.inl n1)] [] h R)) : ft_V k_Mo_takesOut 0 [some (.inr (.inr 309)), some (.inl x1), some (.inl x2), some (.inl x3), none] [] h R := by
  refine fv_iload_n (ft_d o_Mo_takesOut 0 rfl) rfl rfl ?_
  refine fv_iconst (ft_d o_Mo_takesOut 1 rfl) rfl rfl ?_
  refine fv_iload_n (ft_d o_Mo_takesOut 2 rfl) rfl rfl ?_
  refine fv_imul (ft_d o_Mo_takesOut 3 rfl) rfl ?_
  refine fv_iadd (ft_d o_Mo_takesOut 4 rfl) rfl ?_
  generalize en1 : ft_add x1 (ft_mul 3 x3) = n1
  have w := w n1 en1.symm
  refine fv_istore (L' := [some (.inr (.inr 309)), some (.inl x1), some (.inl x2), some (.inl x3), some (.inl n1)]) (ft_d o_Mo_takesOut 5 rfl) rfl (Nat.le_of_ble_eq_true rfl) rfl ?_
  refine fv_mask (M := [true, true, true, false, true]) rfl ?_
  exact w
set_option maxRecDepth 20000 in
theorem b_Mo_takesOut_7 {x1 : Int} {x2 : Int} {x4 : Int} {h : ftH} {R : Option ftV → ftH → Prop} 
    (w : ((ft_sub (ft_add x1 (ft_mul 3 x2)) 3 ≤ x4 → R none h) ∧ (¬ (ft_sub (ft_add x1 (ft_mul 3 x2)) 3 ≤ x4) → ((0 ≤ ft_add x4 3 ∧ ft_add x4 3 < 520) ∧ ((0 ≤ x4 ∧ x4 < 520) ∧ (∀ h1 : ftH, h1 = ft_hs h 310 x4.toNat (h 310 (ft_add x4 3).toNat) → ft_V k_Mo_takesOut 7 [some (.inr (.inr 309)), some (.inl x1), some (.inl x2), none, some (.inl (ft_add x4 1))] [] h1 R)))))) : ft_V k_Mo_takesOut 7 [some (.inr (.inr 309)), some (.inl x1), some (.inl x2), none, some (.inl x4)] [] h R := by
  refine fv_iload (ft_d o_Mo_takesOut 6 rfl) rfl rfl ?_
  refine fv_iload_n (ft_d o_Mo_takesOut 7 rfl) rfl rfl ?_
  refine fv_iconst (ft_d o_Mo_takesOut 8 rfl) rfl rfl ?_
  refine fv_iload_n (ft_d o_Mo_takesOut 9 rfl) rfl rfl ?_
  refine fv_imul (ft_d o_Mo_takesOut 10 rfl) rfl ?_
  refine fv_iadd (ft_d o_Mo_takesOut 11 rfl) rfl ?_
  refine fv_iconst (ft_d o_Mo_takesOut 12 rfl) rfl rfl ?_
  refine fv_isub (ft_d o_Mo_takesOut 13 rfl) rfl ?_
  refine fv_icmp_ge (tgt := 41) (ft_d o_Mo_takesOut 14 rfl) rfl rfl (fun c => ?_) (fun c => ?_)
  · have w := w.1 c
    exact fv_return (ft_d o_Mo_takesOut 27 rfl) rfl w
  · have w := w.2 c
    refine fv_aload_n (ft_d o_Mo_takesOut 15 rfl) rfl rfl ?_
    refine fv_getR (b := 310) (ft_d o_Mo_takesOut 16 rfl) rfl fl_Mo_13 sh_309 rfl ly_309_1 ?_
    refine fv_iload (ft_d o_Mo_takesOut 17 rfl) rfl rfl ?_
    refine fv_aload_n (ft_d o_Mo_takesOut 18 rfl) rfl rfl ?_
    refine fv_getR (b := 310) (ft_d o_Mo_takesOut 19 rfl) rfl fl_Mo_13 sh_309 rfl ly_309_1 ?_
    refine fv_iload (ft_d o_Mo_takesOut 20 rfl) rfl rfl ?_
    refine fv_iconst (ft_d o_Mo_takesOut 21 rfl) rfl rfl ?_
    refine fv_iadd (ft_d o_Mo_takesOut 22 rfl) rfl ?_
    refine fv_iald (ft_d o_Mo_takesOut 23 rfl) rfl sh_310 w.1 ?_
    have w := w.2
    refine fv_iast (ft_d o_Mo_takesOut 24 rfl) rfl sh_310 w.1 ?_
    have w := w.2
    generalize eh1 : ft_hs h 310 x4.toNat (h 310 (ft_add x4 3).toNat) = h1
    have w := w h1 eh1.symm
    refine fv_iinc (L' := [some (.inr (.inr 309)), some (.inl x1), some (.inl x2), none, some (.inl (ft_add x4 1))]) (ft_d o_Mo_takesOut 25 rfl) rfl rfl (Nat.le_of_ble_eq_true rfl) rfl ?_
    refine fv_goto (pc' := 7) (ft_d o_Mo_takesOut 26 rfl) rfl ?_
    exact w
set_option maxRecDepth 20000 in
theorem b_Mo_areaOf_0 {x1 : Int} {x2 : Int} {x3 : Int} {h : ftH} {R : Option ftV → ftH → Prop} 
    (w : ((0 ≤ ft_add x1 (ft_mul 3 x3) ∧ ft_add x1 (ft_mul 3 x3) < 520) ∧ (∀ n1 : Int, n1 = h 310 (ft_add x1 (ft_mul 3 x3)).toNat → ((0 ≤ ft_add (ft_add x1 (ft_mul 3 x3)) 1 ∧ ft_add (ft_add x1 (ft_mul 3 x3)) 1 < 520) ∧ (∀ n2 : Int, n2 = h 310 (ft_add (ft_add x1 (ft_mul 3 x3)) 1).toNat → ((0 ≤ n2 ∧ n2 ≤ 32) ∧ (∀ n5 : Int, n5 = pSz n2 → ft_V k_Mo_areaOf 36 [some (.inr (.inr 309)), some (.inl x1), some (.inl x2), some (.inl x3), some (.inl n1), some (.inl n2), some (.inr (.inl n5)), none, some (.inl 0), none] [] h R))))))) : ft_V k_Mo_areaOf 0 [some (.inr (.inr 309)), some (.inl x1), some (.inl x2), some (.inl x3), none, none, none, none, none, none] [] h R := by
  refine fv_aload_n (ft_d o_Mo_areaOf 0 rfl) rfl rfl ?_
  refine fv_getR (b := 310) (ft_d o_Mo_areaOf 1 rfl) rfl fl_Mo_13 sh_309 rfl ly_309_1 ?_
  refine fv_iload_n (ft_d o_Mo_areaOf 2 rfl) rfl rfl ?_
  refine fv_iconst (ft_d o_Mo_areaOf 3 rfl) rfl rfl ?_
  refine fv_iload_n (ft_d o_Mo_areaOf 4 rfl) rfl rfl ?_
  refine fv_imul (ft_d o_Mo_areaOf 5 rfl) rfl ?_
  refine fv_iadd (ft_d o_Mo_areaOf 6 rfl) rfl ?_
  refine fv_iald (ft_d o_Mo_areaOf 7 rfl) rfl sh_310 w.1 ?_
  have w := w.2
  generalize en1 : h 310 (ft_add x1 (ft_mul 3 x3)).toNat = n1
  have w := w n1 en1.symm
  refine fv_istore (L' := [some (.inr (.inr 309)), some (.inl x1), some (.inl x2), some (.inl x3), some (.inl n1), none, none, none, none, none]) (ft_d o_Mo_areaOf 8 rfl) rfl (Nat.le_of_ble_eq_true rfl) rfl ?_
  refine fv_aload_n (ft_d o_Mo_areaOf 9 rfl) rfl rfl ?_
  refine fv_getR (b := 310) (ft_d o_Mo_areaOf 10 rfl) rfl fl_Mo_13 sh_309 rfl ly_309_1 ?_
  refine fv_iload_n (ft_d o_Mo_areaOf 11 rfl) rfl rfl ?_
  refine fv_iconst (ft_d o_Mo_areaOf 12 rfl) rfl rfl ?_
  refine fv_iload_n (ft_d o_Mo_areaOf 13 rfl) rfl rfl ?_
  refine fv_imul (ft_d o_Mo_areaOf 14 rfl) rfl ?_
  refine fv_iadd (ft_d o_Mo_areaOf 15 rfl) rfl ?_
  refine fv_iconst (ft_d o_Mo_areaOf 16 rfl) rfl rfl ?_
  refine fv_iadd (ft_d o_Mo_areaOf 17 rfl) rfl ?_
  refine fv_iald (ft_d o_Mo_areaOf 18 rfl) rfl sh_310 w.1 ?_
  have w := w.2
  generalize en2 : h 310 (ft_add (ft_add x1 (ft_mul 3 x3)) 1).toNat = n2
  have w := w n2 en2.symm
  refine fv_istore (L' := [some (.inr (.inr 309)), some (.inl x1), some (.inl x2), some (.inl x3), some (.inl n1), some (.inl n2), none, none, none, none]) (ft_d o_Mo_areaOf 19 rfl) rfl (Nat.le_of_ble_eq_true rfl) rfl ?_
  refine fv_iload (ft_d o_Mo_areaOf 20 rfl) rfl rfl ?_
  refine fv_calllf (st := []) (z := pSz n2) rfl rfl (ft_mm (pre := [.inl n2]) rfl) (ft_rnS (K' := k_Mo_sizeOf) (As := [.inl n2]) (ft_d o_Mo_areaOf 21 rfl) ml_Mo_118 lz_Mo_sizeOf rfl lw_Mo_sizeOf ⟨rfl, rfl, Nat.le_of_ble_eq_true rfl, Nat.le_of_ble_eq_true rfl⟩ rfl rfl (Nat.le_of_ble_eq_true rfl) (c_Mo_sizeOf w.1)) ?_
  have w := w.2
  generalize en5 : pSz n2 = n5
  have w := w n5 en5.symm
  refine fv_lstore (L' := [some (.inr (.inr 309)), some (.inl x1), some (.inl x2), some (.inl x3), some (.inl n1), some (.inl n2), some (.inr (.inl n5)), none, none, none]) (ft_d o_Mo_areaOf 22 rfl) rfl (Nat.le_of_ble_eq_true rfl) rfl ?_
  refine fv_iconst (ft_d o_Mo_areaOf 23 rfl) rfl rfl ?_
  refine fv_istore (L' := [some (.inr (.inr 309)), some (.inl x1), some (.inl x2), some (.inl x3), some (.inl n1), some (.inl n2), some (.inr (.inl n5)), none, some (.inl 0), none]) (ft_d o_Mo_areaOf 24 rfl) rfl (Nat.le_of_ble_eq_true rfl) rfl ?_
  exact w
set_option maxRecDepth 20000 in
theorem b_Mo_areaOf_36 {x1 : Int} {x2 : Int} {x3 : Int} {x4 : Int} {x5 : Int} {x6 : Int} {x8 : Int} {h : ftH} {R : Option ftV → ftH → Prop} 
    (w : ((x2 ≤ x8 → R (some (.inr (.inl x6))) h) ∧ (¬ (x2 ≤ x8) → ((0 ≤ ft_add (ft_add x1 (ft_mul 3 x8)) 1 ∧ ft_add (ft_add x1 (ft_mul 3 x8)) 1 < 520) ∧ (∀ n1 : Int, n1 = h 310 (ft_add (ft_add x1 (ft_mul 3 x8)) 1).toNat → ((n1 ≤ x5 → ft_V k_Mo_areaOf 36 [some (.inr (.inr 309)), some (.inl x1), some (.inl x2), some (.inl x3), some (.inl x4), some (.inl x5), some (.inr (.inl x6)), none, some (.inl (ft_add x8 1)), none] [] h R) ∧ (¬ (n1 ≤ x5) → ((0 ≤ ft_add x1 (ft_mul 3 x8) ∧ ft_add x1 (ft_mul 3 x8) < 520) ∧ ((0 ≤ x5 ∧ x5 ≤ 32) ∧ ((¬ (pUn x4 / pSz x5 = pUn (h 310 (ft_add x1 (ft_mul 3 x8)).toNat) / pSz x5) → ft_V k_Mo_areaOf 36 [some (.inr (.inr 309)), some (.inl x1), some (.inl x2), some (.inl x3), some (.inl x4), some (.inl x5), some (.inr (.inl x6)), none, some (.inl (ft_add x8 1)), none] [] h R) ∧ (pUn x4 / pSz x5 = pUn (h 310 (ft_add x1 (ft_mul 3 x8)).toNat) / pSz x5 → ((0 ≤ ft_add x1 (ft_mul 3 x8) ∧ ft_add x1 (ft_mul 3 x8) < 520) ∧ (∃ R4 : Option ftV → ftH → Prop, ft_C k_Mo_longest [.inr (.inr 309), .inl x1, .inl x2, .inl (h 310 (ft_add x1 (ft_mul 3 x8)).toNat), .inl n1] h R4 ∧ ∀ (z6 : Int) (h1 : ftH), ft_in z6 → R4 (some (.inl z6)) h1 → ((¬ (z6 = x3) → ft_V k_Mo_areaOf 36 [some (.inr (.inr 309)), some (.inl x1), some (.inl x2), some (.inl x3), some (.inl x4), some (.inl x5), some (.inr (.inl x6)), none, some (.inl (ft_add x8 1)), none] [] h1 R) ∧ (z6 = x3 → ((0 ≤ n1 ∧ n1 ≤ 32) ∧ (∀ n9 : Int, n9 = ft_subL x6 (pSz n1) → ft_V k_Mo_areaOf 36 [some (.inr (.inr 309)), some (.inl x1), some (.inl x2), some (.inl x3), some (.inl x4), some (.inl x5), some (.inr (.inl n9)), none, some (.inl (ft_add x8 1)), none] [] h1 R))))))))))))))))) : ft_V k_Mo_areaOf 36 [some (.inr (.inr 309)), some (.inl x1), some (.inl x2), some (.inl x3), some (.inl x4), some (.inl x5), some (.inr (.inl x6)), none, some (.inl x8), none] [] h R := by
  refine fv_iload (ft_d o_Mo_areaOf 25 rfl) rfl rfl ?_
  refine fv_iload_n (ft_d o_Mo_areaOf 26 rfl) rfl rfl ?_
  refine fv_icmp_ge (tgt := 124) (ft_d o_Mo_areaOf 27 rfl) rfl rfl (fun c => ?_) (fun c => ?_)
  · have w := w.1 c
    refine fv_lload (ft_d o_Mo_areaOf 76 rfl) rfl rfl ?_
    exact fv_lreturn (ft_d o_Mo_areaOf 77 rfl) rfl w
  · have w := w.2 c
    refine fv_aload_n (ft_d o_Mo_areaOf 28 rfl) rfl rfl ?_
    refine fv_getR (b := 310) (ft_d o_Mo_areaOf 29 rfl) rfl fl_Mo_13 sh_309 rfl ly_309_1 ?_
    refine fv_iload_n (ft_d o_Mo_areaOf 30 rfl) rfl rfl ?_
    refine fv_iconst (ft_d o_Mo_areaOf 31 rfl) rfl rfl ?_
    refine fv_iload (ft_d o_Mo_areaOf 32 rfl) rfl rfl ?_
    refine fv_imul (ft_d o_Mo_areaOf 33 rfl) rfl ?_
    refine fv_iadd (ft_d o_Mo_areaOf 34 rfl) rfl ?_
    refine fv_iconst (ft_d o_Mo_areaOf 35 rfl) rfl rfl ?_
    refine fv_iadd (ft_d o_Mo_areaOf 36 rfl) rfl ?_
    refine fv_iald (ft_d o_Mo_areaOf 37 rfl) rfl sh_310 w.1 ?_
    have w := w.2
    generalize en1 : h 310 (ft_add (ft_add x1 (ft_mul 3 x8)) 1).toNat = n1
    have w := w n1 en1.symm
    refine fv_istore (L' := [some (.inr (.inr 309)), some (.inl x1), some (.inl x2), some (.inl x3), some (.inl x4), some (.inl x5), some (.inr (.inl x6)), none, some (.inl x8), some (.inl n1)]) (ft_d o_Mo_areaOf 38 rfl) rfl (Nat.le_of_ble_eq_true rfl) rfl ?_
    refine fv_iload (ft_d o_Mo_areaOf 39 rfl) rfl rfl ?_
    refine fv_iload (ft_d o_Mo_areaOf 40 rfl) rfl rfl ?_
    refine fv_icmp_le (tgt := 118) (ft_d o_Mo_areaOf 41 rfl) rfl rfl (fun c => ?_) (fun c => ?_)
    · have w := w.1 c
      refine fv_iinc (L' := [some (.inr (.inr 309)), some (.inl x1), some (.inl x2), some (.inl x3), some (.inl x4), some (.inl x5), some (.inr (.inl x6)), none, some (.inl (ft_add x8 1)), some (.inl n1)]) (ft_d o_Mo_areaOf 74 rfl) rfl rfl (Nat.le_of_ble_eq_true rfl) rfl ?_
      refine fv_goto (pc' := 36) (ft_d o_Mo_areaOf 75 rfl) rfl ?_
      refine fv_mask (M := [true, true, true, true, true, true, true, false, true, false]) rfl ?_
      exact w
    · have w := w.2 c
      refine fv_iload (ft_d o_Mo_areaOf 42 rfl) rfl rfl ?_
      refine fv_iload (ft_d o_Mo_areaOf 43 rfl) rfl rfl ?_
      refine fv_aload_n (ft_d o_Mo_areaOf 44 rfl) rfl rfl ?_
      refine fv_getR (b := 310) (ft_d o_Mo_areaOf 45 rfl) rfl fl_Mo_13 sh_309 rfl ly_309_1 ?_
      refine fv_iload_n (ft_d o_Mo_areaOf 46 rfl) rfl rfl ?_
      refine fv_iconst (ft_d o_Mo_areaOf 47 rfl) rfl rfl ?_
      refine fv_iload (ft_d o_Mo_areaOf 48 rfl) rfl rfl ?_
      refine fv_imul (ft_d o_Mo_areaOf 49 rfl) rfl ?_
      refine fv_iadd (ft_d o_Mo_areaOf 50 rfl) rfl ?_
      refine fv_iald (ft_d o_Mo_areaOf 51 rfl) rfl sh_310 w.1 ?_
      have w := w.2
      refine fv_callif (st := []) (z := (if pUn x4 / pSz x5 = pUn (h 310 (ft_add x1 (ft_mul 3 x8)).toNat) / pSz x5 then 1 else 0)) (Or.inr rfl) rfl (ft_mm (pre := [.inl (h 310 (ft_add x1 (ft_mul 3 x8)).toNat), .inl x5, .inl x4]) rfl) (ft_rnS (K' := k_Mo_contains) (As := [.inl x4, .inl x5, .inl (h 310 (ft_add x1 (ft_mul 3 x8)).toNat)]) (ft_d o_Mo_areaOf 52 rfl) ml_Mo_110 lz_Mo_contains rfl lw_Mo_contains ⟨rfl, rfl, Nat.le_of_ble_eq_true rfl, Nat.le_of_ble_eq_true rfl⟩ rfl rfl (Nat.le_of_ble_eq_true rfl) (c_Mo_contains w.1)) ?_
      have w := w.2
      refine fv_if_eq (tgt := 118) (ft_d o_Mo_areaOf 53 rfl) rfl rfl (fun c => ?_) (fun c => ?_)
      · have w := w.1 (ft_if0.mp c)
        refine fv_iinc (L' := [some (.inr (.inr 309)), some (.inl x1), some (.inl x2), some (.inl x3), some (.inl x4), some (.inl x5), some (.inr (.inl x6)), none, some (.inl (ft_add x8 1)), some (.inl n1)]) (ft_d o_Mo_areaOf 74 rfl) rfl rfl (Nat.le_of_ble_eq_true rfl) rfl ?_
        refine fv_goto (pc' := 36) (ft_d o_Mo_areaOf 75 rfl) rfl ?_
        refine fv_mask (M := [true, true, true, true, true, true, true, false, true, false]) rfl ?_
        exact w
      · have w := w.2 (ft_if1.mp c)
        refine fv_aload_n (ft_d o_Mo_areaOf 54 rfl) rfl rfl ?_
        refine fv_iload_n (ft_d o_Mo_areaOf 55 rfl) rfl rfl ?_
        refine fv_iload_n (ft_d o_Mo_areaOf 56 rfl) rfl rfl ?_
        refine fv_aload_n (ft_d o_Mo_areaOf 57 rfl) rfl rfl ?_
        refine fv_getR (b := 310) (ft_d o_Mo_areaOf 58 rfl) rfl fl_Mo_13 sh_309 rfl ly_309_1 ?_
        refine fv_iload_n (ft_d o_Mo_areaOf 59 rfl) rfl rfl ?_
        refine fv_iconst (ft_d o_Mo_areaOf 60 rfl) rfl rfl ?_
        refine fv_iload (ft_d o_Mo_areaOf 61 rfl) rfl rfl ?_
        refine fv_imul (ft_d o_Mo_areaOf 62 rfl) rfl ?_
        refine fv_iadd (ft_d o_Mo_areaOf 63 rfl) rfl ?_
        refine fv_iald (ft_d o_Mo_areaOf 64 rfl) rfl sh_310 w.1 ?_
        have w := w.2
        refine fv_iload (ft_d o_Mo_areaOf 65 rfl) rfl rfl ?_
        obtain ⟨R4, c5, w⟩ := w
        refine fv_calli (st := []) (Or.inl rfl) rfl (ft_mm (pre := [.inl n1, .inl (h 310 (ft_add x1 (ft_mul 3 x8)).toNat), .inl x2, .inl x1, .inr (.inr 309)]) rfl) (ft_rnV (K' := k_Mo_longest) (As := [.inl x1, .inl x2, .inl (h 310 (ft_add x1 (ft_mul 3 x8)).toNat), .inl n1]) (ft_d o_Mo_areaOf 66 rfl) ml_Mo_121 li_Mo_longest.1 li_Mo_longest.2 lw_Mo_longest ⟨rfl, rfl, Nat.le_of_ble_eq_true rfl, Nat.le_of_ble_eq_true rfl⟩ sh_309 rfl rfl rfl rfl (Nat.le_of_ble_eq_true rfl) c5) (fun z6 h1 hz hw => ?_)
        have w := w z6 h1 hz hw
        refine fv_iload_n (ft_d o_Mo_areaOf 67 rfl) rfl rfl ?_
        refine fv_icmp_ne (tgt := 118) (ft_d o_Mo_areaOf 68 rfl) rfl rfl (fun c => ?_) (fun c => ?_)
        · have w := w.1 c
          refine fv_iinc (L' := [some (.inr (.inr 309)), some (.inl x1), some (.inl x2), some (.inl x3), some (.inl x4), some (.inl x5), some (.inr (.inl x6)), none, some (.inl (ft_add x8 1)), some (.inl n1)]) (ft_d o_Mo_areaOf 74 rfl) rfl rfl (Nat.le_of_ble_eq_true rfl) rfl ?_
          refine fv_goto (pc' := 36) (ft_d o_Mo_areaOf 75 rfl) rfl ?_
          refine fv_mask (M := [true, true, true, true, true, true, true, false, true, false]) rfl ?_
          exact w
        · have w := w.2 c
          refine fv_lload (ft_d o_Mo_areaOf 69 rfl) rfl rfl ?_
          refine fv_iload (ft_d o_Mo_areaOf 70 rfl) rfl rfl ?_
          refine fv_calllf (st := [.inr (.inl x6)]) (z := pSz n1) rfl rfl (ft_mm (pre := [.inl n1]) rfl) (ft_rnS (K' := k_Mo_sizeOf) (As := [.inl n1]) (ft_d o_Mo_areaOf 71 rfl) ml_Mo_118 lz_Mo_sizeOf rfl lw_Mo_sizeOf ⟨rfl, rfl, Nat.le_of_ble_eq_true rfl, Nat.le_of_ble_eq_true rfl⟩ rfl rfl (Nat.le_of_ble_eq_true rfl) (c_Mo_sizeOf w.1)) ?_
          have w := w.2
          refine fv_lsub (ft_d o_Mo_areaOf 72 rfl) rfl ?_
          generalize en9 : ft_subL x6 (pSz n1) = n9
          have w := w n9 en9.symm
          refine fv_lstore (L' := [some (.inr (.inr 309)), some (.inl x1), some (.inl x2), some (.inl x3), some (.inl x4), some (.inl x5), some (.inr (.inl n9)), none, some (.inl x8), some (.inl n1)]) (ft_d o_Mo_areaOf 73 rfl) rfl (Nat.le_of_ble_eq_true rfl) rfl ?_
          refine fv_iinc (L' := [some (.inr (.inr 309)), some (.inl x1), some (.inl x2), some (.inl x3), some (.inl x4), some (.inl x5), some (.inr (.inl n9)), none, some (.inl (ft_add x8 1)), some (.inl n1)]) (ft_d o_Mo_areaOf 74 rfl) rfl rfl (Nat.le_of_ble_eq_true rfl) rfl ?_
          refine fv_goto (pc' := 36) (ft_d o_Mo_areaOf 75 rfl) rfl ?_
          refine fv_mask (M := [true, true, true, true, true, true, true, false, true, false]) rfl ?_
          exact w
set_option maxRecDepth 20000 in
theorem b_Mo_matches_0 {x1 : Int} {h : ftH} {R : Option ftV → ftH → Prop} 
    (w : (∃ R1 : Option ftV → ftH → Prop, ft_C k_Mo_longest [.inr (.inr 309), .inl 10, .inl (h 310 0), .inl x1, .inl 33] h R1 ∧ ∀ (z3 : Int) (h1 : ftH), ft_in z3 → R1 (some (.inl z3)) h1 → R (some (.inl z3)) h1)) : ft_V k_Mo_matches 0 [some (.inr (.inr 309)), some (.inl x1)] [] h R := by
  refine fv_aload_n (ft_d o_Mo_matches 0 rfl) rfl rfl ?_
  refine fv_bipush (ft_d o_Mo_matches 1 rfl) rfl rfl ?_
  refine fv_aload_n (ft_d o_Mo_matches 2 rfl) rfl rfl ?_
  refine fv_getR (b := 310) (ft_d o_Mo_matches 3 rfl) rfl fl_Mo_13 sh_309 rfl ly_309_1 ?_
  refine fv_iconst (ft_d o_Mo_matches 4 rfl) rfl rfl ?_
  refine fv_ialdj (j := 0) (ft_d o_Mo_matches 5 rfl) rfl sh_310 ⟨by decide, by decide⟩ rfl ?_
  refine fv_iload_n (ft_d o_Mo_matches 6 rfl) rfl rfl ?_
  refine fv_bipush (ft_d o_Mo_matches 7 rfl) rfl rfl ?_
  obtain ⟨R1, c2, w⟩ := w
  refine fv_calli (st := []) (Or.inl rfl) rfl (ft_mm (pre := [.inl 33, .inl x1, .inl (h 310 0), .inl 10, .inr (.inr 309)]) rfl) (ft_rnV (K' := k_Mo_longest) (As := [.inl 10, .inl (h 310 0), .inl x1, .inl 33]) (ft_d o_Mo_matches 8 rfl) ml_Mo_121 li_Mo_longest.1 li_Mo_longest.2 lw_Mo_longest ⟨rfl, rfl, Nat.le_of_ble_eq_true rfl, Nat.le_of_ble_eq_true rfl⟩ sh_309 rfl rfl rfl rfl (Nat.le_of_ble_eq_true rfl) c2) (fun z3 h1 hz hw => ?_)
  have w := w z3 h1 hz hw
  exact fv_ireturn (ft_d o_Mo_matches 9 rfl) rfl w
set_option maxRecDepth 20000 in
theorem b_Mo_answers_0 {x1 : Int} {h : ftH} {R : Option ftV → ftH → Prop} 
    (w : (∃ R1 : Option ftV → ftH → Prop, ft_C k_Mo_matches [.inr (.inr 309), .inl x1] h R1 ∧ ∀ (z3 : Int) (h1 : ftH), ft_in z3 → R1 (some (.inl z3)) h1 → ((0 ≤ z3 → ((0 ≤ z3 ∧ z3 < 60) ∧ R (some (.inl (h1 310 (12 + 3 * z3.toNat)))) h1)) ∧ (¬ (0 ≤ z3) → R (some (.inl 0)) h1)))) : ft_V k_Mo_answers 0 [some (.inr (.inr 309)), some (.inl x1), none] [] h R := by
  refine fv_aload_n (ft_d o_Mo_answers 0 rfl) rfl rfl ?_
  refine fv_iload_n (ft_d o_Mo_answers 1 rfl) rfl rfl ?_
  obtain ⟨R1, c2, w⟩ := w
  refine fv_calli (st := []) (Or.inl rfl) rfl (ft_mm (pre := [.inl x1, .inr (.inr 309)]) rfl) (ft_rnV (K' := k_Mo_matches) (As := [.inl x1]) (ft_d o_Mo_answers 2 rfl) ml_Mo_125 li_Mo_matches.1 li_Mo_matches.2 lw_Mo_matches ⟨rfl, rfl, Nat.le_of_ble_eq_true rfl, Nat.le_of_ble_eq_true rfl⟩ sh_309 rfl rfl rfl rfl (Nat.le_of_ble_eq_true rfl) c2) (fun z3 h1 hz hw => ?_)
  have w := w z3 h1 hz hw
  refine fv_istore_n (L' := [some (.inr (.inr 309)), some (.inl x1), some (.inl z3)]) (ft_d o_Mo_answers 3 rfl) rfl (Nat.le_of_ble_eq_true rfl) rfl ?_
  refine fv_iload_n (ft_d o_Mo_answers 4 rfl) rfl rfl ?_
  refine fv_if_ge (tgt := 14) (ft_d o_Mo_answers 5 rfl) rfl rfl (fun c => ?_) (fun c => ?_)
  · have w := w.1 c
    refine fv_aload_n (ft_d o_Mo_answers 8 rfl) rfl rfl ?_
    refine fv_iload_n (ft_d o_Mo_answers 9 rfl) rfl rfl ?_
    refine fv_callif (st := []) (z := h1 310 (12 + 3 * z3.toNat)) (Or.inl rfl) rfl (ft_mm (pre := [.inl z3, .inr (.inr 309)]) rfl) (ft_rnV (K' := k_Mo_hopOf) (As := [.inl z3]) (ft_d o_Mo_answers 10 rfl) ml_Mo_128 li_Mo_hopOf.1 li_Mo_hopOf.2 lw_Mo_hopOf ⟨rfl, rfl, Nat.le_of_ble_eq_true rfl, Nat.le_of_ble_eq_true rfl⟩ sh_309 rfl rfl rfl rfl (Nat.le_of_ble_eq_true rfl) (c_Mo_hopOf w.1)) ?_
    have w := w.2
    exact fv_ireturn (ft_d o_Mo_answers 11 rfl) rfl w
  · have w := w.2 c
    refine fv_iconst (ft_d o_Mo_answers 6 rfl) rfl rfl ?_
    refine fv_goto (pc' := 19) (ft_d o_Mo_answers 7 rfl) rfl ?_
    exact fv_ireturn (ft_d o_Mo_answers 11 rfl) rfl w
set_option maxRecDepth 20000 in
theorem b_Mo_parentOf_0 {x1 : Int} {h : ftH} {R : Option ftV → ftH → Prop} 
    (w : ((0 ≤ x1 ∧ x1 < 60) ∧ ((0 ≤ x1 ∧ x1 < 60) ∧ (∃ R5 : Option ftV → ftH → Prop, ft_C k_Mo_longest [.inr (.inr 309), .inl 10, .inl (h 310 0), .inl (h 310 (10 + 3 * x1.toNat)), .inl (h 310 (11 + 3 * x1.toNat))] h R5 ∧ ∀ (z7 : Int) (h1 : ftH), ft_in z7 → R5 (some (.inl z7)) h1 → R (some (.inl z7)) h1)))) : ft_V k_Mo_parentOf 0 [some (.inr (.inr 309)), some (.inl x1)] [] h R := by
  refine fv_aload_n (ft_d o_Mo_parentOf 0 rfl) rfl rfl ?_
  refine fv_bipush (ft_d o_Mo_parentOf 1 rfl) rfl rfl ?_
  refine fv_aload_n (ft_d o_Mo_parentOf 2 rfl) rfl rfl ?_
  refine fv_getR (b := 310) (ft_d o_Mo_parentOf 3 rfl) rfl fl_Mo_13 sh_309 rfl ly_309_1 ?_
  refine fv_iconst (ft_d o_Mo_parentOf 4 rfl) rfl rfl ?_
  refine fv_ialdj (j := 0) (ft_d o_Mo_parentOf 5 rfl) rfl sh_310 ⟨by decide, by decide⟩ rfl ?_
  refine fv_aload_n (ft_d o_Mo_parentOf 6 rfl) rfl rfl ?_
  refine fv_iload_n (ft_d o_Mo_parentOf 7 rfl) rfl rfl ?_
  refine fv_callif (st := [.inl (h 310 0), .inl 10, .inr (.inr 309)]) (z := h 310 (10 + 3 * x1.toNat)) (Or.inl rfl) rfl (ft_mm (pre := [.inl x1, .inr (.inr 309)]) rfl) (ft_rnV (K' := k_Mo_valueOf) (As := [.inl x1]) (ft_d o_Mo_parentOf 8 rfl) ml_Mo_131 li_Mo_valueOf.1 li_Mo_valueOf.2 lw_Mo_valueOf ⟨rfl, rfl, Nat.le_of_ble_eq_true rfl, Nat.le_of_ble_eq_true rfl⟩ sh_309 rfl rfl rfl rfl (Nat.le_of_ble_eq_true rfl) (c_Mo_valueOf w.1)) ?_
  have w := w.2
  refine fv_aload_n (ft_d o_Mo_parentOf 9 rfl) rfl rfl ?_
  refine fv_iload_n (ft_d o_Mo_parentOf 10 rfl) rfl rfl ?_
  refine fv_callif (st := [.inl (h 310 (10 + 3 * x1.toNat)), .inl (h 310 0), .inl 10, .inr (.inr 309)]) (z := h 310 (11 + 3 * x1.toNat)) (Or.inl rfl) rfl (ft_mm (pre := [.inl x1, .inr (.inr 309)]) rfl) (ft_rnV (K' := k_Mo_lengthOf) (As := [.inl x1]) (ft_d o_Mo_parentOf 11 rfl) ml_Mo_134 li_Mo_lengthOf.1 li_Mo_lengthOf.2 lw_Mo_lengthOf ⟨rfl, rfl, Nat.le_of_ble_eq_true rfl, Nat.le_of_ble_eq_true rfl⟩ sh_309 rfl rfl rfl rfl (Nat.le_of_ble_eq_true rfl) (c_Mo_lengthOf w.1)) ?_
  have w := w.2
  obtain ⟨R5, c6, w⟩ := w
  refine fv_calli (st := []) (Or.inl rfl) rfl (ft_mm (pre := [.inl (h 310 (11 + 3 * x1.toNat)), .inl (h 310 (10 + 3 * x1.toNat)), .inl (h 310 0), .inl 10, .inr (.inr 309)]) rfl) (ft_rnV (K' := k_Mo_longest) (As := [.inl 10, .inl (h 310 0), .inl (h 310 (10 + 3 * x1.toNat)), .inl (h 310 (11 + 3 * x1.toNat))]) (ft_d o_Mo_parentOf 12 rfl) ml_Mo_121 li_Mo_longest.1 li_Mo_longest.2 lw_Mo_longest ⟨rfl, rfl, Nat.le_of_ble_eq_true rfl, Nat.le_of_ble_eq_true rfl⟩ sh_309 rfl rfl rfl rfl (Nat.le_of_ble_eq_true rfl) c6) (fun z7 h1 hz hw => ?_)
  have w := w z7 h1 hz hw
  exact fv_ireturn (ft_d o_Mo_parentOf 13 rfl) rfl w
set_option maxRecDepth 20000 in
theorem b_Mo_capacity_0  {h : ftH} {R : Option ftV → ftH → Prop} 
    (w : R (some (.inl (h 310 3))) h) : ft_V k_Mo_capacity 0 [some (.inr (.inr 309))] [] h R := by
  refine fv_aload_n (ft_d o_Mo_capacity 0 rfl) rfl rfl ?_
  refine fv_getR (b := 310) (ft_d o_Mo_capacity 1 rfl) rfl fl_Mo_13 sh_309 rfl ly_309_1 ?_
  refine fv_iconst (ft_d o_Mo_capacity 2 rfl) rfl rfl ?_
  refine fv_ialdj (j := 3) (ft_d o_Mo_capacity 3 rfl) rfl sh_310 ⟨by decide, by decide⟩ rfl ?_
  exact fv_ireturn (ft_d o_Mo_capacity 4 rfl) rfl w
set_option maxRecDepth 20000 in
theorem b_Mo_routes_0  {h : ftH} {R : Option ftV → ftH → Prop} 
    (w : R (some (.inl (h 310 0))) h) : ft_V k_Mo_routes 0 [some (.inr (.inr 309))] [] h R := by
  refine fv_aload_n (ft_d o_Mo_routes 0 rfl) rfl rfl ?_
  refine fv_getR (b := 310) (ft_d o_Mo_routes 1 rfl) rfl fl_Mo_13 sh_309 rfl ly_309_1 ?_
  refine fv_iconst (ft_d o_Mo_routes 2 rfl) rfl rfl ?_
  refine fv_ialdj (j := 0) (ft_d o_Mo_routes 3 rfl) rfl sh_310 ⟨by decide, by decide⟩ rfl ?_
  exact fv_ireturn (ft_d o_Mo_routes 4 rfl) rfl w
set_option maxRecDepth 20000 in
theorem b_Mo_route_0 {x1 : Int} {x2 : Int} {h : ftH} {R : Option ftV → ftH → Prop} 
    (w : ((x1 < 0 → R (some (.inr (.inl ((-1))))) h) ∧ (¬ (x1 < 0) → (((0 : Int) ≤ x2 ∧ x2 ≤ (4 : Int) → ((0 ≤ h 310 0) ∧ ((0 ≤ x1 ∧ x1 < h 310 0 → (((x2 < 0 ∨ 3 < x2) → (∃ R5 : Option ftV → ftH → Prop, ft_C k_Mo_areaOf [.inr (.inr 309), .inl 10, .inl (h 310 0), .inl x1] h R5 ∧ ∀ (z7 : Int) (h1 : ftH), ft_inL z7 → R5 (some (.inr (.inl z7))) h1 → R (some (.inr (.inl z7))) h1)) ∧ (x2 = 0 → ((0 ≤ x1 ∧ x1 < 60) ∧ R (some (.inr (.inl (pUn (h 310 (10 + 3 * x1.toNat)))))) h)) ∧ (x2 = 1 → ((0 ≤ x1 ∧ x1 < 60) ∧ R (some (.inr (.inl (h 310 (11 + 3 * x1.toNat))))) h)) ∧ (x2 = 2 → ((0 ≤ x1 ∧ x1 < 60) ∧ R (some (.inr (.inl (h 310 (12 + 3 * x1.toNat))))) h)) ∧ (x2 = 3 → (∃ R16 : Option ftV → ftH → Prop, ft_C k_Mo_parentOf [.inr (.inr 309), .inl x1] h R16 ∧ ∀ (z18 : Int) (h2 : ftH), ft_in z18 → R16 (some (.inl z18)) h2 → R (some (.inr (.inl z18))) h2)))) ∧ (¬ (0 ≤ x1 ∧ x1 < h 310 0) → R (some (.inr (.inl ((-2))))) h)))) ∧ (¬ ((0 : Int) ≤ x2 ∧ x2 ≤ (4 : Int)) → R (some (.inr (.inl ((-1))))) h))))) : ft_V k_Mo_route 0 [some (.inr (.inr 309)), some (.inl x1), some (.inl x2)] [] h R := by
  refine fv_iload_n (ft_d o_Mo_route 0 rfl) rfl rfl ?_
  refine fv_if_lt (tgt := 16) (ft_d o_Mo_route 1 rfl) rfl rfl (fun c => ?_) (fun c => ?_)
  · have w := w.1 c
    refine fv_ldc2 (v := (-1)) (z := (-1)) (ft_d o_Mo_route 8 rfl) rfl (ft_gt 1202 (by decide +kernel) rfl) rfl ?_
    exact fv_lreturn (ft_d o_Mo_route 9 rfl) rfl w
  · have w := w.2 c
    refine fv_iload_n (ft_d o_Mo_route 2 rfl) rfl rfl ?_
    refine fv_i2l (ft_d o_Mo_route 3 rfl) rfl ?_
    refine fv_lconst (z := 0) (ft_d o_Mo_route 4 rfl) rfl rfl ?_
    refine fv_ldc2 (v := 4) (z := 4) (ft_d o_Mo_route 5 rfl) rfl (ft_gt 1198 (by decide +kernel) rfl) rfl ?_
    refine fv_callif (st := []) (z := (if (0 : Int) ≤ x2 ∧ x2 ≤ (4 : Int) then 1 else 0)) (Or.inr rfl) rfl (ft_mm (pre := [.inr (.inl 4), .inr (.inl 0), .inr (.inl x2)]) rfl) (ft_rnS (K' := k_Mo_in) (As := [.inr (.inl x2), .inr (.inl 0), .inr (.inl 4)]) (ft_d o_Mo_route 6 rfl) ml_Mo_106 lz_Mo_in rfl lw_Mo_in ⟨rfl, rfl, Nat.le_of_ble_eq_true rfl, Nat.le_of_ble_eq_true rfl⟩ rfl rfl (Nat.le_of_ble_eq_true rfl) (c_Mo_in)) ?_
    refine fv_if_ne (tgt := 20) (ft_d o_Mo_route 7 rfl) rfl rfl (fun c => ?_) (fun c => ?_)
    · have w := w.1 (ft_if1.mp c)
      refine fv_aload_n (ft_d o_Mo_route 10 rfl) rfl rfl ?_
      refine fv_iload_n (ft_d o_Mo_route 11 rfl) rfl rfl ?_
      refine fv_callif (st := []) (z := (if 0 ≤ x1 ∧ x1 < h 310 0 then 1 else 0)) (Or.inr rfl) rfl (ft_mm (pre := [.inl x1, .inr (.inr 309)]) rfl) (ft_rnV (K' := k_Mo_isRoute) (As := [.inl x1]) (ft_d o_Mo_route 12 rfl) ml_Mo_141 li_Mo_isRoute.1 li_Mo_isRoute.2 lw_Mo_isRoute ⟨rfl, rfl, Nat.le_of_ble_eq_true rfl, Nat.le_of_ble_eq_true rfl⟩ sh_309 rfl rfl rfl rfl (Nat.le_of_ble_eq_true rfl) (c_Mo_isRoute w.1)) ?_
      have w := w.2
      refine fv_if_ne (tgt := 32) (ft_d o_Mo_route 13 rfl) rfl rfl (fun c => ?_) (fun c => ?_)
      · have w := w.1 (ft_if1.mp c)
        refine fv_iload_n (ft_d o_Mo_route 16 rfl) rfl rfl ?_
        rcases (by omega : (x2 < 0 ∨ 3 < x2) ∨ x2 = 0 ∨ x2 = 1 ∨ x2 = 2 ∨ x2 = 3) with c | c | c | c | c
        · have w := w.1 c
          refine fv_tswOut (pc' := 94) (ft_d o_Mo_route 17 rfl) c rfl ?_
          refine fv_aload_n (ft_d o_Mo_route 38 rfl) rfl rfl ?_
          refine fv_bipush (ft_d o_Mo_route 39 rfl) rfl rfl ?_
          refine fv_aload_n (ft_d o_Mo_route 40 rfl) rfl rfl ?_
          refine fv_getR (b := 310) (ft_d o_Mo_route 41 rfl) rfl fl_Mo_13 sh_309 rfl ly_309_1 ?_
          refine fv_iconst (ft_d o_Mo_route 42 rfl) rfl rfl ?_
          refine fv_ialdj (j := 0) (ft_d o_Mo_route 43 rfl) rfl sh_310 ⟨by decide, by decide⟩ rfl ?_
          refine fv_iload_n (ft_d o_Mo_route 44 rfl) rfl rfl ?_
          obtain ⟨R5, c6, w⟩ := w
          refine fv_calll (st := []) rfl rfl (ft_mm (pre := [.inl x1, .inl (h 310 0), .inl 10, .inr (.inr 309)]) rfl) (ft_rnV (K' := k_Mo_areaOf) (As := [.inl 10, .inl (h 310 0), .inl x1]) (ft_d o_Mo_route 45 rfl) ml_Mo_150 li_Mo_areaOf.1 li_Mo_areaOf.2 lw_Mo_areaOf ⟨rfl, rfl, Nat.le_of_ble_eq_true rfl, Nat.le_of_ble_eq_true rfl⟩ sh_309 rfl rfl rfl rfl (Nat.le_of_ble_eq_true rfl) c6) (fun z7 h1 hz hw => ?_)
          have w := w z7 h1 hz hw
          exact fv_lreturn (ft_d o_Mo_route 46 rfl) rfl w
        · have w := w.2.1 c
          refine fv_tswIn (pc' := 64) (ft_d o_Mo_route 17 rfl) (by omega) (by omega) (by rw [c]; rfl) rfl ?_
          refine fv_aload_n (ft_d o_Mo_route 18 rfl) rfl rfl ?_
          refine fv_iload_n (ft_d o_Mo_route 19 rfl) rfl rfl ?_
          refine fv_callif (st := []) (z := h 310 (10 + 3 * x1.toNat)) (Or.inl rfl) rfl (ft_mm (pre := [.inl x1, .inr (.inr 309)]) rfl) (ft_rnV (K' := k_Mo_valueOf) (As := [.inl x1]) (ft_d o_Mo_route 20 rfl) ml_Mo_131 li_Mo_valueOf.1 li_Mo_valueOf.2 lw_Mo_valueOf ⟨rfl, rfl, Nat.le_of_ble_eq_true rfl, Nat.le_of_ble_eq_true rfl⟩ sh_309 rfl rfl rfl rfl (Nat.le_of_ble_eq_true rfl) (c_Mo_valueOf w.1)) ?_
          have w := w.2
          refine fv_calllf (st := []) (z := pUn (h 310 (10 + 3 * x1.toNat))) rfl rfl (ft_mm (pre := [.inl (h 310 (10 + 3 * x1.toNat))]) rfl) (ft_rnS (K' := k_Mo_unsigned) (As := [.inl (h 310 (10 + 3 * x1.toNat))]) (ft_d o_Mo_route 21 rfl) ml_Mo_100 lz_Mo_unsigned rfl lw_Mo_unsigned ⟨rfl, rfl, Nat.le_of_ble_eq_true rfl, Nat.le_of_ble_eq_true rfl⟩ rfl rfl (Nat.le_of_ble_eq_true rfl) (c_Mo_unsigned)) ?_
          exact fv_lreturn (ft_d o_Mo_route 22 rfl) rfl w
        · have w := w.2.2.1 c
          refine fv_tswIn (pc' := 73) (ft_d o_Mo_route 17 rfl) (by omega) (by omega) (by rw [c]; rfl) rfl ?_
          refine fv_aload_n (ft_d o_Mo_route 23 rfl) rfl rfl ?_
          refine fv_iload_n (ft_d o_Mo_route 24 rfl) rfl rfl ?_
          refine fv_callif (st := []) (z := h 310 (11 + 3 * x1.toNat)) (Or.inl rfl) rfl (ft_mm (pre := [.inl x1, .inr (.inr 309)]) rfl) (ft_rnV (K' := k_Mo_lengthOf) (As := [.inl x1]) (ft_d o_Mo_route 25 rfl) ml_Mo_134 li_Mo_lengthOf.1 li_Mo_lengthOf.2 lw_Mo_lengthOf ⟨rfl, rfl, Nat.le_of_ble_eq_true rfl, Nat.le_of_ble_eq_true rfl⟩ sh_309 rfl rfl rfl rfl (Nat.le_of_ble_eq_true rfl) (c_Mo_lengthOf w.1)) ?_
          have w := w.2
          refine fv_i2l (ft_d o_Mo_route 26 rfl) rfl ?_
          exact fv_lreturn (ft_d o_Mo_route 27 rfl) rfl w
        · have w := w.2.2.2.1 c
          refine fv_tswIn (pc' := 80) (ft_d o_Mo_route 17 rfl) (by omega) (by omega) (by rw [c]; rfl) rfl ?_
          refine fv_aload_n (ft_d o_Mo_route 28 rfl) rfl rfl ?_
          refine fv_iload_n (ft_d o_Mo_route 29 rfl) rfl rfl ?_
          refine fv_callif (st := []) (z := h 310 (12 + 3 * x1.toNat)) (Or.inl rfl) rfl (ft_mm (pre := [.inl x1, .inr (.inr 309)]) rfl) (ft_rnV (K' := k_Mo_hopOf) (As := [.inl x1]) (ft_d o_Mo_route 30 rfl) ml_Mo_128 li_Mo_hopOf.1 li_Mo_hopOf.2 lw_Mo_hopOf ⟨rfl, rfl, Nat.le_of_ble_eq_true rfl, Nat.le_of_ble_eq_true rfl⟩ sh_309 rfl rfl rfl rfl (Nat.le_of_ble_eq_true rfl) (c_Mo_hopOf w.1)) ?_
          have w := w.2
          refine fv_i2l (ft_d o_Mo_route 31 rfl) rfl ?_
          exact fv_lreturn (ft_d o_Mo_route 32 rfl) rfl w
        · have w := w.2.2.2.2 c
          refine fv_tswIn (pc' := 87) (ft_d o_Mo_route 17 rfl) (by omega) (by omega) (by rw [c]; rfl) rfl ?_
          refine fv_aload_n (ft_d o_Mo_route 33 rfl) rfl rfl ?_
          refine fv_iload_n (ft_d o_Mo_route 34 rfl) rfl rfl ?_
          obtain ⟨R16, c17, w⟩ := w
          refine fv_calli (st := []) (Or.inl rfl) rfl (ft_mm (pre := [.inl x1, .inr (.inr 309)]) rfl) (ft_rnV (K' := k_Mo_parentOf) (As := [.inl x1]) (ft_d o_Mo_route 35 rfl) ml_Mo_147 li_Mo_parentOf.1 li_Mo_parentOf.2 lw_Mo_parentOf ⟨rfl, rfl, Nat.le_of_ble_eq_true rfl, Nat.le_of_ble_eq_true rfl⟩ sh_309 rfl rfl rfl rfl (Nat.le_of_ble_eq_true rfl) c17) (fun z18 h2 hz hw => ?_)
          have w := w z18 h2 hz hw
          refine fv_i2l (ft_d o_Mo_route 36 rfl) rfl ?_
          exact fv_lreturn (ft_d o_Mo_route 37 rfl) rfl w
      · have w := w.2 (ft_if0.mp c)
        refine fv_ldc2 (v := (-2)) (z := (-2)) (ft_d o_Mo_route 14 rfl) rfl (ft_gt 1207 (by decide +kernel) rfl) rfl ?_
        exact fv_lreturn (ft_d o_Mo_route 15 rfl) rfl w
    · have w := w.2 (ft_if0.mp c)
      refine fv_ldc2 (v := (-1)) (z := (-1)) (ft_d o_Mo_route 8 rfl) rfl (ft_gt 1202 (by decide +kernel) rfl) rfl ?_
      exact fv_lreturn (ft_d o_Mo_route 9 rfl) rfl w
set_option maxRecDepth 20000 in
theorem b_Mo_answer_0 {x1 : Int} {h : ftH} {R : Option ftV → ftH → Prop} 
    (w : (∃ R1 : Option ftV → ftH → Prop, ft_C k_Mo_answers [.inr (.inr 309), .inl x1] h R1 ∧ ∀ (z3 : Int) (h1 : ftH), ft_in z3 → R1 (some (.inl z3)) h1 → R (some (.inl z3)) h1)) : ft_V k_Mo_answer 0 [some (.inr (.inr 309)), some (.inl x1)] [] h R := by
  refine fv_aload_n (ft_d o_Mo_answer 0 rfl) rfl rfl ?_
  refine fv_iload_n (ft_d o_Mo_answer 1 rfl) rfl rfl ?_
  obtain ⟨R1, c2, w⟩ := w
  refine fv_calli (st := []) (Or.inl rfl) rfl (ft_mm (pre := [.inl x1, .inr (.inr 309)]) rfl) (ft_rnV (K' := k_Mo_answers) (As := [.inl x1]) (ft_d o_Mo_answer 2 rfl) ml_Mo_154 li_Mo_answers.1 li_Mo_answers.2 lw_Mo_answers ⟨rfl, rfl, Nat.le_of_ble_eq_true rfl, Nat.le_of_ble_eq_true rfl⟩ sh_309 rfl rfl rfl rfl (Nat.le_of_ble_eq_true rfl) c2) (fun z3 h1 hz hw => ?_)
  have w := w z3 h1 hz hw
  exact fv_ireturn (ft_d o_Mo_answer 3 rfl) rfl w
set_option maxRecDepth 20000 in
theorem b_Mo_matching_0 {x1 : Int} {h : ftH} {R : Option ftV → ftH → Prop} 
    (w : (∃ R1 : Option ftV → ftH → Prop, ft_C k_Mo_matches [.inr (.inr 309), .inl x1] h R1 ∧ ∀ (z3 : Int) (h1 : ftH), ft_in z3 → R1 (some (.inl z3)) h1 → R (some (.inl z3)) h1)) : ft_V k_Mo_matching 0 [some (.inr (.inr 309)), some (.inl x1)] [] h R := by
  refine fv_aload_n (ft_d o_Mo_matching 0 rfl) rfl rfl ?_
  refine fv_iload_n (ft_d o_Mo_matching 1 rfl) rfl rfl ?_
  obtain ⟨R1, c2, w⟩ := w
  refine fv_calli (st := []) (Or.inl rfl) rfl (ft_mm (pre := [.inl x1, .inr (.inr 309)]) rfl) (ft_rnV (K' := k_Mo_matches) (As := [.inl x1]) (ft_d o_Mo_matching 2 rfl) ml_Mo_125 li_Mo_matches.1 li_Mo_matches.2 lw_Mo_matches ⟨rfl, rfl, Nat.le_of_ble_eq_true rfl, Nat.le_of_ble_eq_true rfl⟩ sh_309 rfl rfl rfl rfl (Nat.le_of_ble_eq_true rfl) c2) (fun z3 h1 hz hw => ?_)
  have w := w z3 h1 hz hw
  exact fv_ireturn (ft_d o_Mo_matching 3 rfl) rfl w
set_option maxRecDepth 20000 in
theorem b_Mo_clears_0  {h : ftH} {R : Option ftV → ftH → Prop} 
    (w : ((h 310 2 ≤ 0 → (∀ h1 : ftH, h1 = ft_hs h 310 6 (ft_add (h 310 6) (h 310 2)) → (∀ h2 : ftH, h2 = ft_hs h1 310 2 0 → R none h2))) ∧ (¬ (h 310 2 ≤ 0) → (∀ h3 : ftH, h3 = ft_hs h 310 8 (ft_add (h 310 8) 1) → (∀ h4 : ftH, h4 = ft_hs h3 310 6 (ft_add (h3 310 6) (h3 310 2)) → (∀ h5 : ftH, h5 = ft_hs h4 310 2 0 → R none h5)))))) : ft_V k_Mo_clears 0 [some (.inr (.inr 309))] [] h R := by
  refine fv_aload_n (ft_d o_Mo_clears 0 rfl) rfl rfl ?_
  refine fv_getR (b := 310) (ft_d o_Mo_clears 1 rfl) rfl fl_Mo_13 sh_309 rfl ly_309_1 ?_
  refine fv_iconst (ft_d o_Mo_clears 2 rfl) rfl rfl ?_
  refine fv_ialdj (j := 2) (ft_d o_Mo_clears 3 rfl) rfl sh_310 ⟨by decide, by decide⟩ rfl ?_
  refine fv_if_le (tgt := 20) (ft_d o_Mo_clears 4 rfl) rfl rfl (fun c => ?_) (fun c => ?_)
  · have w := w.1 c
    refine fv_aload_n (ft_d o_Mo_clears 13 rfl) rfl rfl ?_
    refine fv_getR (b := 310) (ft_d o_Mo_clears 14 rfl) rfl fl_Mo_13 sh_309 rfl ly_309_1 ?_
    refine fv_bipush (ft_d o_Mo_clears 15 rfl) rfl rfl ?_
    refine fv_dup2 (ft_d o_Mo_clears 16 rfl) rfl rfl rfl ?_
    refine fv_ialdj (j := 6) (ft_d o_Mo_clears 17 rfl) rfl sh_310 ⟨by decide, by decide⟩ rfl ?_
    refine fv_aload_n (ft_d o_Mo_clears 18 rfl) rfl rfl ?_
    refine fv_getR (b := 310) (ft_d o_Mo_clears 19 rfl) rfl fl_Mo_13 sh_309 rfl ly_309_1 ?_
    refine fv_iconst (ft_d o_Mo_clears 20 rfl) rfl rfl ?_
    refine fv_ialdj (j := 2) (ft_d o_Mo_clears 21 rfl) rfl sh_310 ⟨by decide, by decide⟩ rfl ?_
    refine fv_iadd (ft_d o_Mo_clears 22 rfl) rfl ?_
    refine fv_iastj (j := 6) (ft_d o_Mo_clears 23 rfl) rfl sh_310 ⟨by decide, by decide⟩ rfl ?_
    generalize eh1 : ft_hs h 310 6 (ft_add (h 310 6) (h 310 2)) = h1
    have w := w h1 eh1.symm
    refine fv_aload_n (ft_d o_Mo_clears 24 rfl) rfl rfl ?_
    refine fv_getR (b := 310) (ft_d o_Mo_clears 25 rfl) rfl fl_Mo_13 sh_309 rfl ly_309_1 ?_
    refine fv_iconst (ft_d o_Mo_clears 26 rfl) rfl rfl ?_
    refine fv_iconst (ft_d o_Mo_clears 27 rfl) rfl rfl ?_
    refine fv_iastj (j := 2) (ft_d o_Mo_clears 28 rfl) rfl sh_310 ⟨by decide, by decide⟩ rfl ?_
    generalize eh2 : ft_hs h1 310 2 0 = h2
    have w := w h2 eh2.symm
    exact fv_return (ft_d o_Mo_clears 29 rfl) rfl w
  · have w := w.2 c
    refine fv_aload_n (ft_d o_Mo_clears 5 rfl) rfl rfl ?_
    refine fv_getR (b := 310) (ft_d o_Mo_clears 6 rfl) rfl fl_Mo_13 sh_309 rfl ly_309_1 ?_
    refine fv_bipush (ft_d o_Mo_clears 7 rfl) rfl rfl ?_
    refine fv_dup2 (ft_d o_Mo_clears 8 rfl) rfl rfl rfl ?_
    refine fv_ialdj (j := 8) (ft_d o_Mo_clears 9 rfl) rfl sh_310 ⟨by decide, by decide⟩ rfl ?_
    refine fv_iconst (ft_d o_Mo_clears 10 rfl) rfl rfl ?_
    refine fv_iadd (ft_d o_Mo_clears 11 rfl) rfl ?_
    refine fv_iastj (j := 8) (ft_d o_Mo_clears 12 rfl) rfl sh_310 ⟨by decide, by decide⟩ rfl ?_
    generalize eh3 : ft_hs h 310 8 (ft_add (h 310 8) 1) = h3
    have w := w h3 eh3.symm
    refine fv_aload_n (ft_d o_Mo_clears 13 rfl) rfl rfl ?_
    refine fv_getR (b := 310) (ft_d o_Mo_clears 14 rfl) rfl fl_Mo_13 sh_309 rfl ly_309_1 ?_
    refine fv_bipush (ft_d o_Mo_clears 15 rfl) rfl rfl ?_
    refine fv_dup2 (ft_d o_Mo_clears 16 rfl) rfl rfl rfl ?_
    refine fv_ialdj (j := 6) (ft_d o_Mo_clears 17 rfl) rfl sh_310 ⟨by decide, by decide⟩ rfl ?_
    refine fv_aload_n (ft_d o_Mo_clears 18 rfl) rfl rfl ?_
    refine fv_getR (b := 310) (ft_d o_Mo_clears 19 rfl) rfl fl_Mo_13 sh_309 rfl ly_309_1 ?_
    refine fv_iconst (ft_d o_Mo_clears 20 rfl) rfl rfl ?_
    refine fv_ialdj (j := 2) (ft_d o_Mo_clears 21 rfl) rfl sh_310 ⟨by decide, by decide⟩ rfl ?_
    refine fv_iadd (ft_d o_Mo_clears 22 rfl) rfl ?_
    refine fv_iastj (j := 6) (ft_d o_Mo_clears 23 rfl) rfl sh_310 ⟨by decide, by decide⟩ rfl ?_
    generalize eh4 : ft_hs h3 310 6 (ft_add (h3 310 6) (h3 310 2)) = h4
    have w := w h4 eh4.symm
    refine fv_aload_n (ft_d o_Mo_clears 24 rfl) rfl rfl ?_
    refine fv_getR (b := 310) (ft_d o_Mo_clears 25 rfl) rfl fl_Mo_13 sh_309 rfl ly_309_1 ?_
    refine fv_iconst (ft_d o_Mo_clears 26 rfl) rfl rfl ?_
    refine fv_iconst (ft_d o_Mo_clears 27 rfl) rfl rfl ?_
    refine fv_iastj (j := 2) (ft_d o_Mo_clears 28 rfl) rfl sh_310 ⟨by decide, by decide⟩ rfl ?_
    generalize eh5 : ft_hs h4 310 2 0 = h5
    have w := w h5 eh5.symm
    exact fv_return (ft_d o_Mo_clears 29 rfl) rfl w
set_option maxRecDepth 20000 in
theorem b_Mo_actionFor_0 {x1 : Int} {h : ftH} {R : Option ftV → ftH → Prop} 
    (w : (∃ R1 : Option ftV → ftH → Prop, ft_C k_Mo_longest [.inr (.inr 309), .inl 270, .inl (h 310 2), .inl x1, .inl 33] h R1 ∧ ∀ (z3 : Int) (h1 : ftH), ft_in z3 → R1 (some (.inl z3)) h1 → ((0 ≤ z3 → ((0 ≤ z3 ∧ z3 < 80) ∧ R (some (.inl (h1 310 (272 + 3 * z3.toNat)))) h1)) ∧ (¬ (0 ≤ z3) → R (some (.inl ((-2)))) h1)))) : ft_V k_Mo_actionFor 0 [some (.inr (.inr 309)), some (.inl x1), none] [] h R := by
  refine fv_aload_n (ft_d o_Mo_actionFor 0 rfl) rfl rfl ?_
  refine fv_sipush (ft_d o_Mo_actionFor 1 rfl) rfl rfl ?_
  refine fv_aload_n (ft_d o_Mo_actionFor 2 rfl) rfl rfl ?_
  refine fv_getR (b := 310) (ft_d o_Mo_actionFor 3 rfl) rfl fl_Mo_13 sh_309 rfl ly_309_1 ?_
  refine fv_iconst (ft_d o_Mo_actionFor 4 rfl) rfl rfl ?_
  refine fv_ialdj (j := 2) (ft_d o_Mo_actionFor 5 rfl) rfl sh_310 ⟨by decide, by decide⟩ rfl ?_
  refine fv_iload_n (ft_d o_Mo_actionFor 6 rfl) rfl rfl ?_
  refine fv_bipush (ft_d o_Mo_actionFor 7 rfl) rfl rfl ?_
  obtain ⟨R1, c2, w⟩ := w
  refine fv_calli (st := []) (Or.inl rfl) rfl (ft_mm (pre := [.inl 33, .inl x1, .inl (h 310 2), .inl 270, .inr (.inr 309)]) rfl) (ft_rnV (K' := k_Mo_longest) (As := [.inl 270, .inl (h 310 2), .inl x1, .inl 33]) (ft_d o_Mo_actionFor 8 rfl) ml_Mo_121 li_Mo_longest.1 li_Mo_longest.2 lw_Mo_longest ⟨rfl, rfl, Nat.le_of_ble_eq_true rfl, Nat.le_of_ble_eq_true rfl⟩ sh_309 rfl rfl rfl rfl (Nat.le_of_ble_eq_true rfl) c2) (fun z3 h1 hz hw => ?_)
  have w := w z3 h1 hz hw
  refine fv_istore_n (L' := [some (.inr (.inr 309)), some (.inl x1), some (.inl z3)]) (ft_d o_Mo_actionFor 9 rfl) rfl (Nat.le_of_ble_eq_true rfl) rfl ?_
  refine fv_iload_n (ft_d o_Mo_actionFor 10 rfl) rfl rfl ?_
  refine fv_if_ge (tgt := 26) (ft_d o_Mo_actionFor 11 rfl) rfl rfl (fun c => ?_) (fun c => ?_)
  · have w := w.1 c
    refine fv_aload_n (ft_d o_Mo_actionFor 14 rfl) rfl rfl ?_
    refine fv_iload_n (ft_d o_Mo_actionFor 15 rfl) rfl rfl ?_
    refine fv_callif (st := []) (z := h1 310 (272 + 3 * z3.toNat)) (Or.inl rfl) rfl (ft_mm (pre := [.inl z3, .inr (.inr 309)]) rfl) (ft_rnV (K' := k_Mo_actionIn) (As := [.inl z3]) (ft_d o_Mo_actionFor 16 rfl) ml_Mo_157 li_Mo_actionIn.1 li_Mo_actionIn.2 lw_Mo_actionIn ⟨rfl, rfl, Nat.le_of_ble_eq_true rfl, Nat.le_of_ble_eq_true rfl⟩ sh_309 rfl rfl rfl rfl (Nat.le_of_ble_eq_true rfl) (c_Mo_actionIn w.1)) ?_
    have w := w.2
    exact fv_ireturn (ft_d o_Mo_actionFor 17 rfl) rfl w
  · have w := w.2 c
    refine fv_bipush (ft_d o_Mo_actionFor 12 rfl) rfl rfl ?_
    refine fv_goto (pc' := 31) (ft_d o_Mo_actionFor 13 rfl) rfl ?_
    exact fv_ireturn (ft_d o_Mo_actionFor 17 rfl) rfl w
set_option maxRecDepth 20000 in
theorem b_Mo_isHard_0 {x1 : Int} {h : ftH} {R : Option ftV → ftH → Prop} 
    (w : (∃ R1 : Option ftV → ftH → Prop, ft_C k_Mo_actionFor [.inr (.inr 309), .inl x1] h R1 ∧ ∀ (z3 : Int) (h1 : ftH), ft_in z3 → R1 (some (.inl z3)) h1 → R (some (.inl ((if (0 : Int) ≤ z3 ∧ z3 ≤ (15 : Int) then 1 else 0)))) h1)) : ft_V k_Mo_isHard 0 [some (.inr (.inr 309)), some (.inl x1)] [] h R := by
  refine fv_aload_n (ft_d o_Mo_isHard 0 rfl) rfl rfl ?_
  refine fv_iload_n (ft_d o_Mo_isHard 1 rfl) rfl rfl ?_
  obtain ⟨R1, c2, w⟩ := w
  refine fv_calli (st := []) (Or.inl rfl) rfl (ft_mm (pre := [.inl x1, .inr (.inr 309)]) rfl) (ft_rnV (K' := k_Mo_actionFor) (As := [.inl x1]) (ft_d o_Mo_isHard 2 rfl) ml_Mo_160 li_Mo_actionFor.1 li_Mo_actionFor.2 lw_Mo_actionFor ⟨rfl, rfl, Nat.le_of_ble_eq_true rfl, Nat.le_of_ble_eq_true rfl⟩ sh_309 rfl rfl rfl rfl (Nat.le_of_ble_eq_true rfl) c2) (fun z3 h1 hz hw => ?_)
  have w := w z3 h1 hz hw
  refine fv_i2l (ft_d o_Mo_isHard 3 rfl) rfl ?_
  refine fv_lconst (z := 0) (ft_d o_Mo_isHard 4 rfl) rfl rfl ?_
  refine fv_ldc2 (v := 15) (z := 15) (ft_d o_Mo_isHard 5 rfl) rfl (ft_gt 1269 (by decide +kernel) rfl) rfl ?_
  refine fv_callif (st := []) (z := (if (0 : Int) ≤ z3 ∧ z3 ≤ (15 : Int) then 1 else 0)) (Or.inr rfl) rfl (ft_mm (pre := [.inr (.inl 15), .inr (.inl 0), .inr (.inl z3)]) rfl) (ft_rnS (K' := k_Mo_in) (As := [.inr (.inl z3), .inr (.inl 0), .inr (.inl 15)]) (ft_d o_Mo_isHard 6 rfl) ml_Mo_106 lz_Mo_in rfl lw_Mo_in ⟨rfl, rfl, Nat.le_of_ble_eq_true rfl, Nat.le_of_ble_eq_true rfl⟩ rfl rfl (Nat.le_of_ble_eq_true rfl) (c_Mo_in)) ?_
  exact fv_zreturn (ft_d o_Mo_isHard 7 rfl) rfl ft_if01 w
set_option maxRecDepth 20000 in
theorem b_Mo_putsHardware_0 {x1 : Int} {x2 : Int} {x3 : Int} {h : ftH} {R : Option ftV → ftH → Prop} 
    (w : (∃ R1 : Option ftV → ftH → Prop, ft_C k_Mo_putsIn [.inr (.inr 309), .inl 270, .inl (h 310 2), .inl x1, .inl x2, .inl x3] h R1 ∧ ∀ h1 : ftH, R1 none h1 → (∀ h2 : ftH, h2 = ft_hs h1 310 2 (ft_add (h1 310 2) 1) → (∀ h3 : ftH, h3 = ft_hs h2 310 6 (ft_add (h2 310 6) 1) → R none h3)))) : ft_V k_Mo_putsHardware 0 [some (.inr (.inr 309)), some (.inl x1), some (.inl x2), some (.inl x3)] [] h R := by
  refine fv_aload_n (ft_d o_Mo_putsHardware 0 rfl) rfl rfl ?_
  refine fv_sipush (ft_d o_Mo_putsHardware 1 rfl) rfl rfl ?_
  refine fv_aload_n (ft_d o_Mo_putsHardware 2 rfl) rfl rfl ?_
  refine fv_getR (b := 310) (ft_d o_Mo_putsHardware 3 rfl) rfl fl_Mo_13 sh_309 rfl ly_309_1 ?_
  refine fv_iconst (ft_d o_Mo_putsHardware 4 rfl) rfl rfl ?_
  refine fv_ialdj (j := 2) (ft_d o_Mo_putsHardware 5 rfl) rfl sh_310 ⟨by decide, by decide⟩ rfl ?_
  refine fv_iload_n (ft_d o_Mo_putsHardware 6 rfl) rfl rfl ?_
  refine fv_iload_n (ft_d o_Mo_putsHardware 7 rfl) rfl rfl ?_
  refine fv_iload_n (ft_d o_Mo_putsHardware 8 rfl) rfl rfl ?_
  obtain ⟨R1, c2, w⟩ := w
  refine fv_callv (st := []) rfl rfl (ft_mm (pre := [.inl x3, .inl x2, .inl x1, .inl (h 310 2), .inl 270, .inr (.inr 309)]) rfl) (ft_rnV (K' := k_Mo_putsIn) (As := [.inl 270, .inl (h 310 2), .inl x1, .inl x2, .inl x3]) (ft_d o_Mo_putsHardware 9 rfl) ml_Mo_165 li_Mo_putsIn.1 li_Mo_putsIn.2 lw_Mo_putsIn ⟨rfl, rfl, Nat.le_of_ble_eq_true rfl, Nat.le_of_ble_eq_true rfl⟩ sh_309 rfl rfl rfl rfl (Nat.le_of_ble_eq_true rfl) c2) (fun h1 hw => ?_)
  have w := w h1 hw
  refine fv_aload_n (ft_d o_Mo_putsHardware 10 rfl) rfl rfl ?_
  refine fv_getR (b := 310) (ft_d o_Mo_putsHardware 11 rfl) rfl fl_Mo_13 sh_309 rfl ly_309_1 ?_
  refine fv_iconst (ft_d o_Mo_putsHardware 12 rfl) rfl rfl ?_
  refine fv_dup2 (ft_d o_Mo_putsHardware 13 rfl) rfl rfl rfl ?_
  refine fv_ialdj (j := 2) (ft_d o_Mo_putsHardware 14 rfl) rfl sh_310 ⟨by decide, by decide⟩ rfl ?_
  refine fv_iconst (ft_d o_Mo_putsHardware 15 rfl) rfl rfl ?_
  refine fv_iadd (ft_d o_Mo_putsHardware 16 rfl) rfl ?_
  refine fv_iastj (j := 2) (ft_d o_Mo_putsHardware 17 rfl) rfl sh_310 ⟨by decide, by decide⟩ rfl ?_
  generalize eh2 : ft_hs h1 310 2 (ft_add (h1 310 2) 1) = h2
  have w := w h2 eh2.symm
  refine fv_aload_n (ft_d o_Mo_putsHardware 18 rfl) rfl rfl ?_
  refine fv_getR (b := 310) (ft_d o_Mo_putsHardware 19 rfl) rfl fl_Mo_13 sh_309 rfl ly_309_1 ?_
  refine fv_bipush (ft_d o_Mo_putsHardware 20 rfl) rfl rfl ?_
  refine fv_dup2 (ft_d o_Mo_putsHardware 21 rfl) rfl rfl rfl ?_
  refine fv_ialdj (j := 6) (ft_d o_Mo_putsHardware 22 rfl) rfl sh_310 ⟨by decide, by decide⟩ rfl ?_
  refine fv_iconst (ft_d o_Mo_putsHardware 23 rfl) rfl rfl ?_
  refine fv_iadd (ft_d o_Mo_putsHardware 24 rfl) rfl ?_
  refine fv_iastj (j := 6) (ft_d o_Mo_putsHardware 25 rfl) rfl sh_310 ⟨by decide, by decide⟩ rfl ?_
  generalize eh3 : ft_hs h2 310 6 (ft_add (h2 310 6) 1) = h3
  have w := w h3 eh3.symm
  exact fv_return (ft_d o_Mo_putsHardware 26 rfl) rfl w
set_option maxRecDepth 20000 in
theorem b_Mo_takesHardware_0 {x1 : Int} {h : ftH} {R : Option ftV → ftH → Prop} 
    (w : (∃ R1 : Option ftV → ftH → Prop, ft_C k_Mo_takesOut [.inr (.inr 309), .inl 270, .inl (h 310 2), .inl x1] h R1 ∧ ∀ h1 : ftH, R1 none h1 → (∀ h2 : ftH, h2 = ft_hs h1 310 2 (ft_sub (h1 310 2) 1) → (∀ h3 : ftH, h3 = ft_hs h2 310 6 (ft_add (h2 310 6) 1) → R none h3)))) : ft_V k_Mo_takesHardware 0 [some (.inr (.inr 309)), some (.inl x1)] [] h R := by
  refine fv_aload_n (ft_d o_Mo_takesHardware 0 rfl) rfl rfl ?_
  refine fv_sipush (ft_d o_Mo_takesHardware 1 rfl) rfl rfl ?_
  refine fv_aload_n (ft_d o_Mo_takesHardware 2 rfl) rfl rfl ?_
  refine fv_getR (b := 310) (ft_d o_Mo_takesHardware 3 rfl) rfl fl_Mo_13 sh_309 rfl ly_309_1 ?_
  refine fv_iconst (ft_d o_Mo_takesHardware 4 rfl) rfl rfl ?_
  refine fv_ialdj (j := 2) (ft_d o_Mo_takesHardware 5 rfl) rfl sh_310 ⟨by decide, by decide⟩ rfl ?_
  refine fv_iload_n (ft_d o_Mo_takesHardware 6 rfl) rfl rfl ?_
  obtain ⟨R1, c2, w⟩ := w
  refine fv_callv (st := []) rfl rfl (ft_mm (pre := [.inl x1, .inl (h 310 2), .inl 270, .inr (.inr 309)]) rfl) (ft_rnV (K' := k_Mo_takesOut) (As := [.inl 270, .inl (h 310 2), .inl x1]) (ft_d o_Mo_takesHardware 7 rfl) ml_Mo_169 li_Mo_takesOut.1 li_Mo_takesOut.2 lw_Mo_takesOut ⟨rfl, rfl, Nat.le_of_ble_eq_true rfl, Nat.le_of_ble_eq_true rfl⟩ sh_309 rfl rfl rfl rfl (Nat.le_of_ble_eq_true rfl) c2) (fun h1 hw => ?_)
  have w := w h1 hw
  refine fv_aload_n (ft_d o_Mo_takesHardware 8 rfl) rfl rfl ?_
  refine fv_getR (b := 310) (ft_d o_Mo_takesHardware 9 rfl) rfl fl_Mo_13 sh_309 rfl ly_309_1 ?_
  refine fv_iconst (ft_d o_Mo_takesHardware 10 rfl) rfl rfl ?_
  refine fv_dup2 (ft_d o_Mo_takesHardware 11 rfl) rfl rfl rfl ?_
  refine fv_ialdj (j := 2) (ft_d o_Mo_takesHardware 12 rfl) rfl sh_310 ⟨by decide, by decide⟩ rfl ?_
  refine fv_iconst (ft_d o_Mo_takesHardware 13 rfl) rfl rfl ?_
  refine fv_isub (ft_d o_Mo_takesHardware 14 rfl) rfl ?_
  refine fv_iastj (j := 2) (ft_d o_Mo_takesHardware 15 rfl) rfl sh_310 ⟨by decide, by decide⟩ rfl ?_
  generalize eh2 : ft_hs h1 310 2 (ft_sub (h1 310 2) 1) = h2
  have w := w h2 eh2.symm
  refine fv_aload_n (ft_d o_Mo_takesHardware 16 rfl) rfl rfl ?_
  refine fv_getR (b := 310) (ft_d o_Mo_takesHardware 17 rfl) rfl fl_Mo_13 sh_309 rfl ly_309_1 ?_
  refine fv_bipush (ft_d o_Mo_takesHardware 18 rfl) rfl rfl ?_
  refine fv_dup2 (ft_d o_Mo_takesHardware 19 rfl) rfl rfl rfl ?_
  refine fv_ialdj (j := 6) (ft_d o_Mo_takesHardware 20 rfl) rfl sh_310 ⟨by decide, by decide⟩ rfl ?_
  refine fv_iconst (ft_d o_Mo_takesHardware 21 rfl) rfl rfl ?_
  refine fv_iadd (ft_d o_Mo_takesHardware 22 rfl) rfl ?_
  refine fv_iastj (j := 6) (ft_d o_Mo_takesHardware 23 rfl) rfl sh_310 ⟨by decide, by decide⟩ rfl ?_
  generalize eh3 : ft_hs h2 310 6 (ft_add (h2 310 6) 1) = h3
  have w := w h3 eh3.symm
  exact fv_return (ft_d o_Mo_takesHardware 24 rfl) rfl w
set_option maxRecDepth 20000 in
theorem b_Mo_routeChanged_0 {x1 : Int} {x2 : Int} {h : ftH} {R : Option ftV → ftH → Prop} 
    (w : (∀ h1 : ftH, h1 = ft_hs h 310 7 (ft_add (h 310 7) 1) → (∀ n1 : Int, n1 = ft_sub (h1 310 2) 1 → ft_V k_Mo_routeChanged 20 [some (.inr (.inr 309)), some (.inl x1), some (.inl x2), some (.inl n1)] [] h1 R))) : ft_V k_Mo_routeChanged 0 [some (.inr (.inr 309)), some (.inl x1), some (.inl x2), none] [] h R := by
  refine fv_aload_n (ft_d o_Mo_routeChanged 0 rfl) rfl rfl ?_
  refine fv_getR (b := 310) (ft_d o_Mo_routeChanged 1 rfl) rfl fl_Mo_13 sh_309 rfl ly_309_1 ?_
  refine fv_bipush (ft_d o_Mo_routeChanged 2 rfl) rfl rfl ?_
  refine fv_dup2 (ft_d o_Mo_routeChanged 3 rfl) rfl rfl rfl ?_
  refine fv_ialdj (j := 7) (ft_d o_Mo_routeChanged 4 rfl) rfl sh_310 ⟨by decide, by decide⟩ rfl ?_
  refine fv_iconst (ft_d o_Mo_routeChanged 5 rfl) rfl rfl ?_
  refine fv_iadd (ft_d o_Mo_routeChanged 6 rfl) rfl ?_
  refine fv_iastj (j := 7) (ft_d o_Mo_routeChanged 7 rfl) rfl sh_310 ⟨by decide, by decide⟩ rfl ?_
  generalize eh1 : ft_hs h 310 7 (ft_add (h 310 7) 1) = h1
  have w := w h1 eh1.symm
  refine fv_aload_n (ft_d o_Mo_routeChanged 8 rfl) rfl rfl ?_
  refine fv_getR (b := 310) (ft_d o_Mo_routeChanged 9 rfl) rfl fl_Mo_13 sh_309 rfl ly_309_1 ?_
  refine fv_iconst (ft_d o_Mo_routeChanged 10 rfl) rfl rfl ?_
  refine fv_ialdj (j := 2) (ft_d o_Mo_routeChanged 11 rfl) rfl sh_310 ⟨by decide, by decide⟩ rfl ?_
  refine fv_iconst (ft_d o_Mo_routeChanged 12 rfl) rfl rfl ?_
  refine fv_isub (ft_d o_Mo_routeChanged 13 rfl) rfl ?_
  generalize en1 : ft_sub (h1 310 2) 1 = n1
  have w := w n1 en1.symm
  refine fv_istore_n (L' := [some (.inr (.inr 309)), some (.inl x1), some (.inl x2), some (.inl n1)]) (ft_d o_Mo_routeChanged 14 rfl) rfl (Nat.le_of_ble_eq_true rfl) rfl ?_
  exact w
set_option maxRecDepth 20000 in
theorem b_Mo_routeChanged_20 {x1 : Int} {x2 : Int} {x3 : Int} {h : ftH} {R : Option ftV → ftH → Prop} 
    (w : ((x3 < 0 → (∃ R1 : Option ftV → ftH → Prop, ft_C k_Mo_longest [.inr (.inr 309), .inl 270, .inl (h 310 2), .inl x1, .inl x2] h R1 ∧ ∀ (z3 : Int) (h1 : ftH), ft_in z3 → R1 (some (.inl z3)) h1 → ((0 ≤ z3 → ((ft_mul 2 (h1 310 3) ≤ h1 310 2 → (∃ R4 : Option ftV → ftH → Prop, ft_C k_Mo_clears [.inr (.inr 309)] h1 R4 ∧ ∀ h2 : ftH, R4 none h2 → R none h2)) ∧ (¬ (ft_mul 2 (h1 310 3) ≤ h1 310 2) → (∃ R6 : Option ftV → ftH → Prop, ft_C k_Mo_putsHardware [.inr (.inr 309), .inl x1, .inl x2, .inl 16] h1 R6 ∧ ∀ h3 : ftH, R6 none h3 → R none h3)))) ∧ (¬ (0 ≤ z3) → R none h1)))) ∧ (¬ (x3 < 0) → ((0 ≤ x3 ∧ x3 < 80) ∧ ((h 310 (271 + 3 * x3.toNat) < x2 → ft_V k_Mo_routeChanged 20 [some (.inr (.inr 309)), some (.inl x1), some (.inl x2), some (.inl (ft_add x3 (-1)))] [] h R) ∧ (¬ (h 310 (271 + 3 * x3.toNat) < x2) → ((0 ≤ x3 ∧ x3 < 80) ∧ ((0 ≤ x2 ∧ x2 ≤ 32) ∧ ((¬ (pUn x1 / pSz x2 = pUn (h 310 (270 + 3 * x3.toNat)) / pSz x2) → ft_V k_Mo_routeChanged 20 [some (.inr (.inr 309)), some (.inl x1), some (.inl x2), some (.inl (ft_add x3 (-1)))] [] h R) ∧ (pUn x1 / pSz x2 = pUn (h 310 (270 + 3 * x3.toNat)) / pSz x2 → (∃ R14 : Option ftV → ftH → Prop, ft_C k_Mo_takesHardware [.inr (.inr 309), .inl x3] h R14 ∧ ∀ h4 : ftH, R14 none h4 → ft_V k_Mo_routeChanged 20 [some (.inr (.inr 309)), some (.inl x1), some (.inl x2), some (.inl (ft_add x3 (-1)))] [] h4 R))))))))))) : ft_V k_Mo_routeChanged 20 [some (.inr (.inr 309)), some (.inl x1), some (.inl x2), some (.inl x3)] [] h R := by
  refine fv_iload_n (ft_d o_Mo_routeChanged 15 rfl) rfl rfl ?_
  refine fv_if_lt (tgt := 57) (ft_d o_Mo_routeChanged 16 rfl) rfl rfl (fun c => ?_) (fun c => ?_)
  · have w := w.1 c
    refine fv_aload_n (ft_d o_Mo_routeChanged 34 rfl) rfl rfl ?_
    refine fv_sipush (ft_d o_Mo_routeChanged 35 rfl) rfl rfl ?_
    refine fv_aload_n (ft_d o_Mo_routeChanged 36 rfl) rfl rfl ?_
    refine fv_getR (b := 310) (ft_d o_Mo_routeChanged 37 rfl) rfl fl_Mo_13 sh_309 rfl ly_309_1 ?_
    refine fv_iconst (ft_d o_Mo_routeChanged 38 rfl) rfl rfl ?_
    refine fv_ialdj (j := 2) (ft_d o_Mo_routeChanged 39 rfl) rfl sh_310 ⟨by decide, by decide⟩ rfl ?_
    refine fv_iload_n (ft_d o_Mo_routeChanged 40 rfl) rfl rfl ?_
    refine fv_iload_n (ft_d o_Mo_routeChanged 41 rfl) rfl rfl ?_
    obtain ⟨R1, c2, w⟩ := w
    refine fv_calli (st := []) (Or.inl rfl) rfl (ft_mm (pre := [.inl x2, .inl x1, .inl (h 310 2), .inl 270, .inr (.inr 309)]) rfl) (ft_rnV (K' := k_Mo_longest) (As := [.inl 270, .inl (h 310 2), .inl x1, .inl x2]) (ft_d o_Mo_routeChanged 42 rfl) ml_Mo_121 li_Mo_longest.1 li_Mo_longest.2 lw_Mo_longest ⟨rfl, rfl, Nat.le_of_ble_eq_true rfl, Nat.le_of_ble_eq_true rfl⟩ sh_309 rfl rfl rfl rfl (Nat.le_of_ble_eq_true rfl) c2) (fun z3 h1 hz hw => ?_)
    have w := w z3 h1 hz hw
    refine fv_if_ge (tgt := 76) (ft_d o_Mo_routeChanged 43 rfl) rfl rfl (fun c => ?_) (fun c => ?_)
    · have w := w.1 c
      refine fv_aload_n (ft_d o_Mo_routeChanged 45 rfl) rfl rfl ?_
      refine fv_getR (b := 310) (ft_d o_Mo_routeChanged 46 rfl) rfl fl_Mo_13 sh_309 rfl ly_309_1 ?_
      refine fv_iconst (ft_d o_Mo_routeChanged 47 rfl) rfl rfl ?_
      refine fv_ialdj (j := 2) (ft_d o_Mo_routeChanged 48 rfl) rfl sh_310 ⟨by decide, by decide⟩ rfl ?_
      refine fv_iconst (ft_d o_Mo_routeChanged 49 rfl) rfl rfl ?_
      refine fv_aload_n (ft_d o_Mo_routeChanged 50 rfl) rfl rfl ?_
      refine fv_getR (b := 310) (ft_d o_Mo_routeChanged 51 rfl) rfl fl_Mo_13 sh_309 rfl ly_309_1 ?_
      refine fv_iconst (ft_d o_Mo_routeChanged 52 rfl) rfl rfl ?_
      refine fv_ialdj (j := 3) (ft_d o_Mo_routeChanged 53 rfl) rfl sh_310 ⟨by decide, by decide⟩ rfl ?_
      refine fv_imul (ft_d o_Mo_routeChanged 54 rfl) rfl ?_
      refine fv_icmp_ge (tgt := 104) (ft_d o_Mo_routeChanged 55 rfl) rfl rfl (fun c => ?_) (fun c => ?_)
      · have w := w.1 c
        refine fv_aload_n (ft_d o_Mo_routeChanged 62 rfl) rfl rfl ?_
        obtain ⟨R4, c5, w⟩ := w
        refine fv_callv (st := []) rfl rfl (ft_mm (pre := [.inr (.inr 309)]) rfl) (ft_rnV (K' := k_Mo_clears) (As := []) (ft_d o_Mo_routeChanged 63 rfl) ml_Mo_186 li_Mo_clears.1 li_Mo_clears.2 lw_Mo_clears ⟨rfl, rfl, Nat.le_of_ble_eq_true rfl, Nat.le_of_ble_eq_true rfl⟩ sh_309 rfl rfl rfl rfl (Nat.le_of_ble_eq_true rfl) c5) (fun h2 hw => ?_)
        have w := w h2 hw
        exact fv_return (ft_d o_Mo_routeChanged 64 rfl) rfl w
      · have w := w.2 c
        refine fv_aload_n (ft_d o_Mo_routeChanged 56 rfl) rfl rfl ?_
        refine fv_iload_n (ft_d o_Mo_routeChanged 57 rfl) rfl rfl ?_
        refine fv_iload_n (ft_d o_Mo_routeChanged 58 rfl) rfl rfl ?_
        refine fv_bipush (ft_d o_Mo_routeChanged 59 rfl) rfl rfl ?_
        obtain ⟨R6, c7, w⟩ := w
        refine fv_callv (st := []) rfl rfl (ft_mm (pre := [.inl 16, .inl x2, .inl x1, .inr (.inr 309)]) rfl) (ft_rnV (K' := k_Mo_putsHardware) (As := [.inl x1, .inl x2, .inl 16]) (ft_d o_Mo_routeChanged 60 rfl) ml_Mo_183 li_Mo_putsHardware.1 li_Mo_putsHardware.2 lw_Mo_putsHardware ⟨rfl, rfl, Nat.le_of_ble_eq_true rfl, Nat.le_of_ble_eq_true rfl⟩ sh_309 rfl rfl rfl rfl (Nat.le_of_ble_eq_true rfl) c7) (fun h3 hw => ?_)
        have w := w h3 hw
        refine fv_goto (pc' := 108) (ft_d o_Mo_routeChanged 61 rfl) rfl ?_
        exact fv_return (ft_d o_Mo_routeChanged 64 rfl) rfl w
    · have w := w.2 c
      exact fv_return (ft_d o_Mo_routeChanged 44 rfl) rfl w
  · have w := w.2 c
    refine fv_aload_n (ft_d o_Mo_routeChanged 17 rfl) rfl rfl ?_
    refine fv_iload_n (ft_d o_Mo_routeChanged 18 rfl) rfl rfl ?_
    refine fv_callif (st := []) (z := h 310 (271 + 3 * x3.toNat)) (Or.inl rfl) rfl (ft_mm (pre := [.inl x3, .inr (.inr 309)]) rfl) (ft_rnV (K' := k_Mo_lengthIn) (As := [.inl x3]) (ft_d o_Mo_routeChanged 19 rfl) ml_Mo_173 li_Mo_lengthIn.1 li_Mo_lengthIn.2 lw_Mo_lengthIn ⟨rfl, rfl, Nat.le_of_ble_eq_true rfl, Nat.le_of_ble_eq_true rfl⟩ sh_309 rfl rfl rfl rfl (Nat.le_of_ble_eq_true rfl) (c_Mo_lengthIn w.1)) ?_
    have w := w.2
    refine fv_iload_n (ft_d o_Mo_routeChanged 20 rfl) rfl rfl ?_
    refine fv_icmp_lt (tgt := 51) (ft_d o_Mo_routeChanged 21 rfl) rfl rfl (fun c => ?_) (fun c => ?_)
    · have w := w.1 c
      refine fv_iinc (L' := [some (.inr (.inr 309)), some (.inl x1), some (.inl x2), some (.inl (ft_add x3 (-1)))]) (ft_d o_Mo_routeChanged 32 rfl) rfl rfl (Nat.le_of_ble_eq_true rfl) rfl ?_
      refine fv_goto (pc' := 20) (ft_d o_Mo_routeChanged 33 rfl) rfl ?_
      exact w
    · have w := w.2 c
      refine fv_iload_n (ft_d o_Mo_routeChanged 22 rfl) rfl rfl ?_
      refine fv_iload_n (ft_d o_Mo_routeChanged 23 rfl) rfl rfl ?_
      refine fv_aload_n (ft_d o_Mo_routeChanged 24 rfl) rfl rfl ?_
      refine fv_iload_n (ft_d o_Mo_routeChanged 25 rfl) rfl rfl ?_
      refine fv_callif (st := [.inl x2, .inl x1]) (z := h 310 (270 + 3 * x3.toNat)) (Or.inl rfl) rfl (ft_mm (pre := [.inl x3, .inr (.inr 309)]) rfl) (ft_rnV (K' := k_Mo_valueIn) (As := [.inl x3]) (ft_d o_Mo_routeChanged 26 rfl) ml_Mo_176 li_Mo_valueIn.1 li_Mo_valueIn.2 lw_Mo_valueIn ⟨rfl, rfl, Nat.le_of_ble_eq_true rfl, Nat.le_of_ble_eq_true rfl⟩ sh_309 rfl rfl rfl rfl (Nat.le_of_ble_eq_true rfl) (c_Mo_valueIn w.1)) ?_
      have w := w.2
      refine fv_callif (st := []) (z := (if pUn x1 / pSz x2 = pUn (h 310 (270 + 3 * x3.toNat)) / pSz x2 then 1 else 0)) (Or.inr rfl) rfl (ft_mm (pre := [.inl (h 310 (270 + 3 * x3.toNat)), .inl x2, .inl x1]) rfl) (ft_rnS (K' := k_Mo_contains) (As := [.inl x1, .inl x2, .inl (h 310 (270 + 3 * x3.toNat))]) (ft_d o_Mo_routeChanged 27 rfl) ml_Mo_110 lz_Mo_contains rfl lw_Mo_contains ⟨rfl, rfl, Nat.le_of_ble_eq_true rfl, Nat.le_of_ble_eq_true rfl⟩ rfl rfl (Nat.le_of_ble_eq_true rfl) (c_Mo_contains w.1)) ?_
      have w := w.2
      refine fv_if_eq (tgt := 51) (ft_d o_Mo_routeChanged 28 rfl) rfl rfl (fun c => ?_) (fun c => ?_)
      · have w := w.1 (ft_if0.mp c)
        refine fv_iinc (L' := [some (.inr (.inr 309)), some (.inl x1), some (.inl x2), some (.inl (ft_add x3 (-1)))]) (ft_d o_Mo_routeChanged 32 rfl) rfl rfl (Nat.le_of_ble_eq_true rfl) rfl ?_
        refine fv_goto (pc' := 20) (ft_d o_Mo_routeChanged 33 rfl) rfl ?_
        exact w
      · have w := w.2 (ft_if1.mp c)
        refine fv_aload_n (ft_d o_Mo_routeChanged 29 rfl) rfl rfl ?_
        refine fv_iload_n (ft_d o_Mo_routeChanged 30 rfl) rfl rfl ?_
        obtain ⟨R14, c15, w⟩ := w
        refine fv_callv (st := []) rfl rfl (ft_mm (pre := [.inl x3, .inr (.inr 309)]) rfl) (ft_rnV (K' := k_Mo_takesHardware) (As := [.inl x3]) (ft_d o_Mo_routeChanged 31 rfl) ml_Mo_179 li_Mo_takesHardware.1 li_Mo_takesHardware.2 lw_Mo_takesHardware ⟨rfl, rfl, Nat.le_of_ble_eq_true rfl, Nat.le_of_ble_eq_true rfl⟩ sh_309 rfl rfl rfl rfl (Nat.le_of_ble_eq_true rfl) c15) (fun h4 hw => ?_)
        have w := w h4 hw
        refine fv_iinc (L' := [some (.inr (.inr 309)), some (.inl x1), some (.inl x2), some (.inl (ft_add x3 (-1)))]) (ft_d o_Mo_routeChanged 32 rfl) rfl rfl (Nat.le_of_ble_eq_true rfl) rfl ?_
        refine fv_goto (pc' := 20) (ft_d o_Mo_routeChanged 33 rfl) rfl ?_
        exact w
set_option maxRecDepth 20000 in
theorem b_Mo_addRoute_0 {x1 : Int} {x2 : Int} {x3 : Int} {h : ftH} {R : Option ftV → ftH → Prop} 
    (w : ((¬ ((0 ≤ x2 ∧ x2 ≤ 32) ∧ pUn x1 % pSz x2 = 0) → R (some (.inl ((-1)))) h) ∧ ((0 ≤ x2 ∧ x2 ≤ 32) ∧ pUn x1 % pSz x2 = 0 → (((0 : Int) ≤ x3 ∧ x3 ≤ (15 : Int) → (∃ R5 : Option ftV → ftH → Prop, ft_C k_Mo_placeOf [.inr (.inr 309), .inl 10, .inl (h 310 0), .inl x1, .inl x2] h R5 ∧ ∀ (z7 : Int) (h1 : ftH), ft_in z7 → R5 (some (.inl z7)) h1 → ((z7 < 0 → ft_V k_Mo_addRoute 56 [some (.inr (.inr 309)), some (.inl x1), some (.inl x2), some (.inl x3), some (.inl z7), none] [] h1 R) ∧ (¬ (z7 < 0) → ((0 ≤ z7 ∧ z7 < 60) ∧ ((¬ (h1 310 (12 + 3 * z7.toNat) = x3) → ft_V k_Mo_addRoute 56 [some (.inr (.inr 309)), some (.inl x1), some (.inl x2), some (.inl x3), some (.inl z7), none] [] h1 R) ∧ (h1 310 (12 + 3 * z7.toNat) = x3 → R (some (.inl ((-2)))) h1))))))) ∧ (¬ ((0 : Int) ≤ x3 ∧ x3 ≤ (15 : Int)) → R (some (.inl ((-1)))) h))))) : ft_V k_Mo_addRoute 0 [some (.inr (.inr 309)), some (.inl x1), some (.inl x2), some (.inl x3), none, none] [] h R := by
  refine fv_iload_n (ft_d o_Mo_addRoute 0 rfl) rfl rfl ?_
  refine fv_iload_n (ft_d o_Mo_addRoute 1 rfl) rfl rfl ?_
  refine fv_callif (st := []) (z := (if (0 ≤ x2 ∧ x2 ≤ 32) ∧ pUn x1 % pSz x2 = 0 then 1 else 0)) (Or.inr rfl) rfl (ft_mm (pre := [.inl x2, .inl x1]) rfl) (ft_rnS (K' := k_Mo_isPrefix) (As := [.inl x1, .inl x2]) (ft_d o_Mo_addRoute 2 rfl) ml_Mo_189 lz_Mo_isPrefix rfl lw_Mo_isPrefix ⟨rfl, rfl, Nat.le_of_ble_eq_true rfl, Nat.le_of_ble_eq_true rfl⟩ rfl rfl (Nat.le_of_ble_eq_true rfl) (c_Mo_isPrefix)) ?_
  refine fv_if_eq (tgt := 20) (ft_d o_Mo_addRoute 3 rfl) rfl rfl (fun c => ?_) (fun c => ?_)
  · have w := w.1 (ft_if0.mp c)
    refine fv_iconst (ft_d o_Mo_addRoute 10 rfl) rfl rfl ?_
    exact fv_ireturn (ft_d o_Mo_addRoute 11 rfl) rfl w
  · have w := w.2 (ft_if1.mp c)
    refine fv_iload_n (ft_d o_Mo_addRoute 4 rfl) rfl rfl ?_
    refine fv_i2l (ft_d o_Mo_addRoute 5 rfl) rfl ?_
    refine fv_lconst (z := 0) (ft_d o_Mo_addRoute 6 rfl) rfl rfl ?_
    refine fv_ldc2 (v := 15) (z := 15) (ft_d o_Mo_addRoute 7 rfl) rfl (ft_gt 1269 (by decide +kernel) rfl) rfl ?_
    refine fv_callif (st := []) (z := (if (0 : Int) ≤ x3 ∧ x3 ≤ (15 : Int) then 1 else 0)) (Or.inr rfl) rfl (ft_mm (pre := [.inr (.inl 15), .inr (.inl 0), .inr (.inl x3)]) rfl) (ft_rnS (K' := k_Mo_in) (As := [.inr (.inl x3), .inr (.inl 0), .inr (.inl 15)]) (ft_d o_Mo_addRoute 8 rfl) ml_Mo_106 lz_Mo_in rfl lw_Mo_in ⟨rfl, rfl, Nat.le_of_ble_eq_true rfl, Nat.le_of_ble_eq_true rfl⟩ rfl rfl (Nat.le_of_ble_eq_true rfl) (c_Mo_in)) ?_
    refine fv_if_ne (tgt := 22) (ft_d o_Mo_addRoute 9 rfl) rfl rfl (fun c => ?_) (fun c => ?_)
    · have w := w.1 (ft_if1.mp c)
      refine fv_aload_n (ft_d o_Mo_addRoute 12 rfl) rfl rfl ?_
      refine fv_bipush (ft_d o_Mo_addRoute 13 rfl) rfl rfl ?_
      refine fv_aload_n (ft_d o_Mo_addRoute 14 rfl) rfl rfl ?_
      refine fv_getR (b := 310) (ft_d o_Mo_addRoute 15 rfl) rfl fl_Mo_13 sh_309 rfl ly_309_1 ?_
      refine fv_iconst (ft_d o_Mo_addRoute 16 rfl) rfl rfl ?_
      refine fv_ialdj (j := 0) (ft_d o_Mo_addRoute 17 rfl) rfl sh_310 ⟨by decide, by decide⟩ rfl ?_
      refine fv_iload_n (ft_d o_Mo_addRoute 18 rfl) rfl rfl ?_
      refine fv_iload_n (ft_d o_Mo_addRoute 19 rfl) rfl rfl ?_
      obtain ⟨R5, c6, w⟩ := w
      refine fv_calli (st := []) (Or.inl rfl) rfl (ft_mm (pre := [.inl x2, .inl x1, .inl (h 310 0), .inl 10, .inr (.inr 309)]) rfl) (ft_rnV (K' := k_Mo_placeOf) (As := [.inl 10, .inl (h 310 0), .inl x1, .inl x2]) (ft_d o_Mo_addRoute 20 rfl) ml_Mo_193 li_Mo_placeOf.1 li_Mo_placeOf.2 lw_Mo_placeOf ⟨rfl, rfl, Nat.le_of_ble_eq_true rfl, Nat.le_of_ble_eq_true rfl⟩ sh_309 rfl rfl rfl rfl (Nat.le_of_ble_eq_true rfl) c6) (fun z7 h1 hz hw => ?_)
      have w := w z7 h1 hz hw
      refine fv_istore (L' := [some (.inr (.inr 309)), some (.inl x1), some (.inl x2), some (.inl x3), some (.inl z7), none]) (ft_d o_Mo_addRoute 21 rfl) rfl (Nat.le_of_ble_eq_true rfl) rfl ?_
      refine fv_iload (ft_d o_Mo_addRoute 22 rfl) rfl rfl ?_
      refine fv_if_lt (tgt := 56) (ft_d o_Mo_addRoute 23 rfl) rfl rfl (fun c => ?_) (fun c => ?_)
      · have w := w.1 c
        exact w
      · have w := w.2 c
        refine fv_aload_n (ft_d o_Mo_addRoute 24 rfl) rfl rfl ?_
        refine fv_iload (ft_d o_Mo_addRoute 25 rfl) rfl rfl ?_
        refine fv_callif (st := []) (z := h1 310 (12 + 3 * z7.toNat)) (Or.inl rfl) rfl (ft_mm (pre := [.inl z7, .inr (.inr 309)]) rfl) (ft_rnV (K' := k_Mo_hopOf) (As := [.inl z7]) (ft_d o_Mo_addRoute 26 rfl) ml_Mo_128 li_Mo_hopOf.1 li_Mo_hopOf.2 lw_Mo_hopOf ⟨rfl, rfl, Nat.le_of_ble_eq_true rfl, Nat.le_of_ble_eq_true rfl⟩ sh_309 rfl rfl rfl rfl (Nat.le_of_ble_eq_true rfl) (c_Mo_hopOf w.1)) ?_
        have w := w.2
        refine fv_iload_n (ft_d o_Mo_addRoute 27 rfl) rfl rfl ?_
        refine fv_icmp_ne (tgt := 56) (ft_d o_Mo_addRoute 28 rfl) rfl rfl (fun c => ?_) (fun c => ?_)
        · have w := w.1 c
          exact w
        · have w := w.2 c
          refine fv_bipush (ft_d o_Mo_addRoute 29 rfl) rfl rfl ?_
          exact fv_ireturn (ft_d o_Mo_addRoute 30 rfl) rfl w
    · have w := w.2 (ft_if0.mp c)
      refine fv_iconst (ft_d o_Mo_addRoute 10 rfl) rfl rfl ?_
      exact fv_ireturn (ft_d o_Mo_addRoute 11 rfl) rfl w
set_option maxRecDepth 20000 in
theorem b_Mo_addRoute_56 {x1 : Int} {x2 : Int} {x3 : Int} {x4 : Int} {h : ftH} {R : Option ftV → ftH → Prop} 
    (w : ((0 ≤ x4 → ft_V k_Mo_addRoute 75 [some (.inr (.inr 309)), some (.inl x1), some (.inl x2), some (.inl x3), some (.inl x4), none] [] h R) ∧ (¬ (0 ≤ x4) → ((¬ (h 310 0 = 60) → ft_V k_Mo_addRoute 75 [some (.inr (.inr 309)), some (.inl x1), some (.inl x2), some (.inl x3), some (.inl x4), none] [] h R) ∧ (h 310 0 = 60 → R (some (.inl ((-3)))) h))))) : ft_V k_Mo_addRoute 56 [some (.inr (.inr 309)), some (.inl x1), some (.inl x2), some (.inl x3), some (.inl x4), none] [] h R := by
  refine fv_iload (ft_d o_Mo_addRoute 31 rfl) rfl rfl ?_
  refine fv_if_ge (tgt := 75) (ft_d o_Mo_addRoute 32 rfl) rfl rfl (fun c => ?_) (fun c => ?_)
  · have w := w.1 c
    exact w
  · have w := w.2 c
    refine fv_aload_n (ft_d o_Mo_addRoute 33 rfl) rfl rfl ?_
    refine fv_getR (b := 310) (ft_d o_Mo_addRoute 34 rfl) rfl fl_Mo_13 sh_309 rfl ly_309_1 ?_
    refine fv_iconst (ft_d o_Mo_addRoute 35 rfl) rfl rfl ?_
    refine fv_ialdj (j := 0) (ft_d o_Mo_addRoute 36 rfl) rfl sh_310 ⟨by decide, by decide⟩ rfl ?_
    refine fv_bipush (ft_d o_Mo_addRoute 37 rfl) rfl rfl ?_
    refine fv_icmp_ne (tgt := 75) (ft_d o_Mo_addRoute 38 rfl) rfl rfl (fun c => ?_) (fun c => ?_)
    · have w := w.1 c
      exact w
    · have w := w.2 c
      refine fv_bipush (ft_d o_Mo_addRoute 39 rfl) rfl rfl ?_
      exact fv_ireturn (ft_d o_Mo_addRoute 40 rfl) rfl w
set_option maxRecDepth 20000 in
theorem b_Mo_addRoute_75 {x1 : Int} {x2 : Int} {x3 : Int} {x4 : Int} {h : ftH} {R : Option ftV → ftH → Prop} 
    (w : (∃ R1 : Option ftV → ftH → Prop, ft_C k_Mo_keepsPast [.inr (.inr 309)] h R1 ∧ ∀ h1 : ftH, R1 none h1 → ((x4 < 0 → (∃ R3 : Option ftV → ftH → Prop, ft_C k_Mo_putsIn [.inr (.inr 309), .inl 10, .inl (h1 310 0), .inl x1, .inl x2, .inl x3] h1 R3 ∧ ∀ h2 : ftH, R3 none h2 → (∀ h3 : ftH, h3 = ft_hs h2 310 0 (ft_add (h2 310 0) 1) → ft_V k_Mo_addRoute 127 [some (.inr (.inr 309)), some (.inl x1), some (.inl x2), none, none, none] [] h3 R))) ∧ (¬ (x4 < 0) → ((0 ≤ ft_add (ft_add 10 (ft_mul 3 x4)) 2 ∧ ft_add (ft_add 10 (ft_mul 3 x4)) 2 < 520) ∧ (∀ h4 : ftH, h4 = ft_hs h1 310 (ft_add (ft_add 10 (ft_mul 3 x4)) 2).toNat x3 → ft_V k_Mo_addRoute 127 [some (.inr (.inr 309)), some (.inl x1), some (.inl x2), none, none, none] [] h4 R)))))) : ft_V k_Mo_addRoute 75 [some (.inr (.inr 309)), some (.inl x1), some (.inl x2), some (.inl x3), some (.inl x4), none] [] h R := by
  refine fv_aload_n (ft_d o_Mo_addRoute 41 rfl) rfl rfl ?_
  obtain ⟨R1, c2, w⟩ := w
  refine fv_callv (st := []) rfl rfl (ft_mm (pre := [.inr (.inr 309)]) rfl) (ft_rnV (K' := k_Mo_keepsPast) (As := []) (ft_d o_Mo_addRoute 42 rfl) ml_Mo_196 li_Mo_keepsPast.1 li_Mo_keepsPast.2 lw_Mo_keepsPast ⟨rfl, rfl, Nat.le_of_ble_eq_true rfl, Nat.le_of_ble_eq_true rfl⟩ sh_309 rfl rfl rfl rfl (Nat.le_of_ble_eq_true rfl) c2) (fun h1 hw => ?_)
  have w := w h1 hw
  refine fv_iload (ft_d o_Mo_addRoute 43 rfl) rfl rfl ?_
  refine fv_if_lt (tgt := 102) (ft_d o_Mo_addRoute 44 rfl) rfl rfl (fun c => ?_) (fun c => ?_)
  · have w := w.1 c
    refine fv_aload_n (ft_d o_Mo_addRoute 57 rfl) rfl rfl ?_
    refine fv_bipush (ft_d o_Mo_addRoute 58 rfl) rfl rfl ?_
    refine fv_aload_n (ft_d o_Mo_addRoute 59 rfl) rfl rfl ?_
    refine fv_getR (b := 310) (ft_d o_Mo_addRoute 60 rfl) rfl fl_Mo_13 sh_309 rfl ly_309_1 ?_
    refine fv_iconst (ft_d o_Mo_addRoute 61 rfl) rfl rfl ?_
    refine fv_ialdj (j := 0) (ft_d o_Mo_addRoute 62 rfl) rfl sh_310 ⟨by decide, by decide⟩ rfl ?_
    refine fv_iload_n (ft_d o_Mo_addRoute 63 rfl) rfl rfl ?_
    refine fv_iload_n (ft_d o_Mo_addRoute 64 rfl) rfl rfl ?_
    refine fv_iload_n (ft_d o_Mo_addRoute 65 rfl) rfl rfl ?_
    obtain ⟨R3, c4, w⟩ := w
    refine fv_callv (st := []) rfl rfl (ft_mm (pre := [.inl x3, .inl x2, .inl x1, .inl (h1 310 0), .inl 10, .inr (.inr 309)]) rfl) (ft_rnV (K' := k_Mo_putsIn) (As := [.inl 10, .inl (h1 310 0), .inl x1, .inl x2, .inl x3]) (ft_d o_Mo_addRoute 66 rfl) ml_Mo_165 li_Mo_putsIn.1 li_Mo_putsIn.2 lw_Mo_putsIn ⟨rfl, rfl, Nat.le_of_ble_eq_true rfl, Nat.le_of_ble_eq_true rfl⟩ sh_309 rfl rfl rfl rfl (Nat.le_of_ble_eq_true rfl) c4) (fun h2 hw => ?_)
    have w := w h2 hw
    refine fv_aload_n (ft_d o_Mo_addRoute 67 rfl) rfl rfl ?_
    refine fv_getR (b := 310) (ft_d o_Mo_addRoute 68 rfl) rfl fl_Mo_13 sh_309 rfl ly_309_1 ?_
    refine fv_iconst (ft_d o_Mo_addRoute 69 rfl) rfl rfl ?_
    refine fv_dup2 (ft_d o_Mo_addRoute 70 rfl) rfl rfl rfl ?_
    refine fv_ialdj (j := 0) (ft_d o_Mo_addRoute 71 rfl) rfl sh_310 ⟨by decide, by decide⟩ rfl ?_
    refine fv_iconst (ft_d o_Mo_addRoute 72 rfl) rfl rfl ?_
    refine fv_iadd (ft_d o_Mo_addRoute 73 rfl) rfl ?_
    refine fv_iastj (j := 0) (ft_d o_Mo_addRoute 74 rfl) rfl sh_310 ⟨by decide, by decide⟩ rfl ?_
    generalize eh3 : ft_hs h2 310 0 (ft_add (h2 310 0) 1) = h3
    have w := w h3 eh3.symm
    refine fv_mask (M := [true, true, true, false, false, false]) rfl ?_
    exact w
  · have w := w.2 c
    refine fv_aload_n (ft_d o_Mo_addRoute 45 rfl) rfl rfl ?_
    refine fv_getR (b := 310) (ft_d o_Mo_addRoute 46 rfl) rfl fl_Mo_13 sh_309 rfl ly_309_1 ?_
    refine fv_bipush (ft_d o_Mo_addRoute 47 rfl) rfl rfl ?_
    refine fv_iconst (ft_d o_Mo_addRoute 48 rfl) rfl rfl ?_
    refine fv_iload (ft_d o_Mo_addRoute 49 rfl) rfl rfl ?_
    refine fv_imul (ft_d o_Mo_addRoute 50 rfl) rfl ?_
    refine fv_iadd (ft_d o_Mo_addRoute 51 rfl) rfl ?_
    refine fv_iconst (ft_d o_Mo_addRoute 52 rfl) rfl rfl ?_
    refine fv_iadd (ft_d o_Mo_addRoute 53 rfl) rfl ?_
    refine fv_iload_n (ft_d o_Mo_addRoute 54 rfl) rfl rfl ?_
    refine fv_iast (ft_d o_Mo_addRoute 55 rfl) rfl sh_310 w.1 ?_
    have w := w.2
    generalize eh4 : ft_hs h1 310 (ft_add (ft_add 10 (ft_mul 3 x4)) 2).toNat x3 = h4
    have w := w h4 eh4.symm
    refine fv_goto (pc' := 127) (ft_d o_Mo_addRoute 56 rfl) rfl ?_
    refine fv_mask (M := [true, true, true, false, false, false]) rfl ?_
    exact w
set_option maxRecDepth 20000 in
theorem b_Mo_addRoute_127 {x1 : Int} {x2 : Int} {h : ftH} {R : Option ftV → ftH → Prop} 
    (w : (∀ n1 : Int, n1 = h 310 6 → (∃ R2 : Option ftV → ftH → Prop, ft_C k_Mo_routeChanged [.inr (.inr 309), .inl x1, .inl x2] h R2 ∧ ∀ h1 : ftH, R2 none h1 → R (some (.inl (ft_sub (h1 310 6) n1))) h1))) : ft_V k_Mo_addRoute 127 [some (.inr (.inr 309)), some (.inl x1), some (.inl x2), none, none, none] [] h R := by
  refine fv_aload_n (ft_d o_Mo_addRoute 75 rfl) rfl rfl ?_
  refine fv_getR (b := 310) (ft_d o_Mo_addRoute 76 rfl) rfl fl_Mo_13 sh_309 rfl ly_309_1 ?_
  refine fv_bipush (ft_d o_Mo_addRoute 77 rfl) rfl rfl ?_
  refine fv_ialdj (j := 6) (ft_d o_Mo_addRoute 78 rfl) rfl sh_310 ⟨by decide, by decide⟩ rfl ?_
  generalize en1 : h 310 6 = n1
  have w := w n1 en1.symm
  refine fv_istore (L' := [some (.inr (.inr 309)), some (.inl x1), some (.inl x2), none, none, some (.inl n1)]) (ft_d o_Mo_addRoute 79 rfl) rfl (Nat.le_of_ble_eq_true rfl) rfl ?_
  refine fv_aload_n (ft_d o_Mo_addRoute 80 rfl) rfl rfl ?_
  refine fv_iload_n (ft_d o_Mo_addRoute 81 rfl) rfl rfl ?_
  refine fv_iload_n (ft_d o_Mo_addRoute 82 rfl) rfl rfl ?_
  obtain ⟨R2, c3, w⟩ := w
  refine fv_callv (st := []) rfl rfl (ft_mm (pre := [.inl x2, .inl x1, .inr (.inr 309)]) rfl) (ft_rnV (K' := k_Mo_routeChanged) (As := [.inl x1, .inl x2]) (ft_d o_Mo_addRoute 83 rfl) ml_Mo_199 li_Mo_routeChanged.1 li_Mo_routeChanged.2 lw_Mo_routeChanged ⟨rfl, rfl, Nat.le_of_ble_eq_true rfl, Nat.le_of_ble_eq_true rfl⟩ sh_309 rfl rfl rfl rfl (Nat.le_of_ble_eq_true rfl) c3) (fun h1 hw => ?_)
  have w := w h1 hw
  refine fv_aload_n (ft_d o_Mo_addRoute 84 rfl) rfl rfl ?_
  refine fv_getR (b := 310) (ft_d o_Mo_addRoute 85 rfl) rfl fl_Mo_13 sh_309 rfl ly_309_1 ?_
  refine fv_bipush (ft_d o_Mo_addRoute 86 rfl) rfl rfl ?_
  refine fv_ialdj (j := 6) (ft_d o_Mo_addRoute 87 rfl) rfl sh_310 ⟨by decide, by decide⟩ rfl ?_
  refine fv_iload (ft_d o_Mo_addRoute 88 rfl) rfl rfl ?_
  refine fv_isub (ft_d o_Mo_addRoute 89 rfl) rfl ?_
  exact fv_ireturn (ft_d o_Mo_addRoute 90 rfl) rfl w
set_option maxRecDepth 20000 in
theorem b_Mo_removeRoute_0 {x1 : Int} {x2 : Int} {h : ftH} {R : Option ftV → ftH → Prop} 
    (w : (((0 ≤ x2 ∧ x2 ≤ 32) ∧ pUn x1 % pSz x2 = 0 → (∃ R3 : Option ftV → ftH → Prop, ft_C k_Mo_placeOf [.inr (.inr 309), .inl 10, .inl (h 310 0), .inl x1, .inl x2] h R3 ∧ ∀ (z5 : Int) (h1 : ftH), ft_in z5 → R3 (some (.inl z5)) h1 → ((0 ≤ z5 → (∃ R6 : Option ftV → ftH → Prop, ft_C k_Mo_keepsPast [.inr (.inr 309)] h1 R6 ∧ ∀ h2 : ftH, R6 none h2 → (∃ R8 : Option ftV → ftH → Prop, ft_C k_Mo_takesOut [.inr (.inr 309), .inl 10, .inl (h2 310 0), .inl z5] h2 R8 ∧ ∀ h3 : ftH, R8 none h3 → (∀ h4 : ftH, h4 = ft_hs h3 310 0 (ft_sub (h3 310 0) 1) → (∀ n10 : Int, n10 = h4 310 6 → (∃ R11 : Option ftV → ftH → Prop, ft_C k_Mo_routeChanged [.inr (.inr 309), .inl x1, .inl x2] h4 R11 ∧ ∀ h5 : ftH, R11 none h5 → R (some (.inl (ft_sub (h5 310 6) n10))) h5)))))) ∧ (¬ (0 ≤ z5) → R (some (.inl ((-2)))) h1)))) ∧ (¬ ((0 ≤ x2 ∧ x2 ≤ 32) ∧ pUn x1 % pSz x2 = 0) → R (some (.inl ((-1)))) h))) : ft_V k_Mo_removeRoute 0 [some (.inr (.inr 309)), some (.inl x1), some (.inl x2), none, none] [] h R := by
  refine fv_iload_n (ft_d o_Mo_removeRoute 0 rfl) rfl rfl ?_
  refine fv_iload_n (ft_d o_Mo_removeRoute 1 rfl) rfl rfl ?_
  refine fv_callif (st := []) (z := (if (0 ≤ x2 ∧ x2 ≤ 32) ∧ pUn x1 % pSz x2 = 0 then 1 else 0)) (Or.inr rfl) rfl (ft_mm (pre := [.inl x2, .inl x1]) rfl) (ft_rnS (K' := k_Mo_isPrefix) (As := [.inl x1, .inl x2]) (ft_d o_Mo_removeRoute 2 rfl) ml_Mo_189 lz_Mo_isPrefix rfl lw_Mo_isPrefix ⟨rfl, rfl, Nat.le_of_ble_eq_true rfl, Nat.le_of_ble_eq_true rfl⟩ rfl rfl (Nat.le_of_ble_eq_true rfl) (c_Mo_isPrefix)) ?_
  refine fv_if_ne (tgt := 10) (ft_d o_Mo_removeRoute 3 rfl) rfl rfl (fun c => ?_) (fun c => ?_)
  · have w := w.1 (ft_if1.mp c)
    refine fv_aload_n (ft_d o_Mo_removeRoute 6 rfl) rfl rfl ?_
    refine fv_bipush (ft_d o_Mo_removeRoute 7 rfl) rfl rfl ?_
    refine fv_aload_n (ft_d o_Mo_removeRoute 8 rfl) rfl rfl ?_
    refine fv_getR (b := 310) (ft_d o_Mo_removeRoute 9 rfl) rfl fl_Mo_13 sh_309 rfl ly_309_1 ?_
    refine fv_iconst (ft_d o_Mo_removeRoute 10 rfl) rfl rfl ?_
    refine fv_ialdj (j := 0) (ft_d o_Mo_removeRoute 11 rfl) rfl sh_310 ⟨by decide, by decide⟩ rfl ?_
    refine fv_iload_n (ft_d o_Mo_removeRoute 12 rfl) rfl rfl ?_
    refine fv_iload_n (ft_d o_Mo_removeRoute 13 rfl) rfl rfl ?_
    obtain ⟨R3, c4, w⟩ := w
    refine fv_calli (st := []) (Or.inl rfl) rfl (ft_mm (pre := [.inl x2, .inl x1, .inl (h 310 0), .inl 10, .inr (.inr 309)]) rfl) (ft_rnV (K' := k_Mo_placeOf) (As := [.inl 10, .inl (h 310 0), .inl x1, .inl x2]) (ft_d o_Mo_removeRoute 14 rfl) ml_Mo_193 li_Mo_placeOf.1 li_Mo_placeOf.2 lw_Mo_placeOf ⟨rfl, rfl, Nat.le_of_ble_eq_true rfl, Nat.le_of_ble_eq_true rfl⟩ sh_309 rfl rfl rfl rfl (Nat.le_of_ble_eq_true rfl) c4) (fun z5 h1 hz hw => ?_)
    have w := w z5 h1 hz hw
    refine fv_istore_n (L' := [some (.inr (.inr 309)), some (.inl x1), some (.inl x2), some (.inl z5), none]) (ft_d o_Mo_removeRoute 15 rfl) rfl (Nat.le_of_ble_eq_true rfl) rfl ?_
    refine fv_iload_n (ft_d o_Mo_removeRoute 16 rfl) rfl rfl ?_
    refine fv_if_ge (tgt := 32) (ft_d o_Mo_removeRoute 17 rfl) rfl rfl (fun c => ?_) (fun c => ?_)
    · have w := w.1 c
      refine fv_aload_n (ft_d o_Mo_removeRoute 20 rfl) rfl rfl ?_
      obtain ⟨R6, c7, w⟩ := w
      refine fv_callv (st := []) rfl rfl (ft_mm (pre := [.inr (.inr 309)]) rfl) (ft_rnV (K' := k_Mo_keepsPast) (As := []) (ft_d o_Mo_removeRoute 21 rfl) ml_Mo_196 li_Mo_keepsPast.1 li_Mo_keepsPast.2 lw_Mo_keepsPast ⟨rfl, rfl, Nat.le_of_ble_eq_true rfl, Nat.le_of_ble_eq_true rfl⟩ sh_309 rfl rfl rfl rfl (Nat.le_of_ble_eq_true rfl) c7) (fun h2 hw => ?_)
      have w := w h2 hw
      refine fv_aload_n (ft_d o_Mo_removeRoute 22 rfl) rfl rfl ?_
      refine fv_bipush (ft_d o_Mo_removeRoute 23 rfl) rfl rfl ?_
      refine fv_aload_n (ft_d o_Mo_removeRoute 24 rfl) rfl rfl ?_
      refine fv_getR (b := 310) (ft_d o_Mo_removeRoute 25 rfl) rfl fl_Mo_13 sh_309 rfl ly_309_1 ?_
      refine fv_iconst (ft_d o_Mo_removeRoute 26 rfl) rfl rfl ?_
      refine fv_ialdj (j := 0) (ft_d o_Mo_removeRoute 27 rfl) rfl sh_310 ⟨by decide, by decide⟩ rfl ?_
      refine fv_iload_n (ft_d o_Mo_removeRoute 28 rfl) rfl rfl ?_
      obtain ⟨R8, c9, w⟩ := w
      refine fv_callv (st := []) rfl rfl (ft_mm (pre := [.inl z5, .inl (h2 310 0), .inl 10, .inr (.inr 309)]) rfl) (ft_rnV (K' := k_Mo_takesOut) (As := [.inl 10, .inl (h2 310 0), .inl z5]) (ft_d o_Mo_removeRoute 29 rfl) ml_Mo_169 li_Mo_takesOut.1 li_Mo_takesOut.2 lw_Mo_takesOut ⟨rfl, rfl, Nat.le_of_ble_eq_true rfl, Nat.le_of_ble_eq_true rfl⟩ sh_309 rfl rfl rfl rfl (Nat.le_of_ble_eq_true rfl) c9) (fun h3 hw => ?_)
      have w := w h3 hw
      refine fv_aload_n (ft_d o_Mo_removeRoute 30 rfl) rfl rfl ?_
      refine fv_getR (b := 310) (ft_d o_Mo_removeRoute 31 rfl) rfl fl_Mo_13 sh_309 rfl ly_309_1 ?_
      refine fv_iconst (ft_d o_Mo_removeRoute 32 rfl) rfl rfl ?_
      refine fv_dup2 (ft_d o_Mo_removeRoute 33 rfl) rfl rfl rfl ?_
      refine fv_ialdj (j := 0) (ft_d o_Mo_removeRoute 34 rfl) rfl sh_310 ⟨by decide, by decide⟩ rfl ?_
      refine fv_iconst (ft_d o_Mo_removeRoute 35 rfl) rfl rfl ?_
      refine fv_isub (ft_d o_Mo_removeRoute 36 rfl) rfl ?_
      refine fv_iastj (j := 0) (ft_d o_Mo_removeRoute 37 rfl) rfl sh_310 ⟨by decide, by decide⟩ rfl ?_
      generalize eh4 : ft_hs h3 310 0 (ft_sub (h3 310 0) 1) = h4
      have w := w h4 eh4.symm
      refine fv_aload_n (ft_d o_Mo_removeRoute 38 rfl) rfl rfl ?_
      refine fv_getR (b := 310) (ft_d o_Mo_removeRoute 39 rfl) rfl fl_Mo_13 sh_309 rfl ly_309_1 ?_
      refine fv_bipush (ft_d o_Mo_removeRoute 40 rfl) rfl rfl ?_
      refine fv_ialdj (j := 6) (ft_d o_Mo_removeRoute 41 rfl) rfl sh_310 ⟨by decide, by decide⟩ rfl ?_
      generalize en10 : h4 310 6 = n10
      have w := w n10 en10.symm
      refine fv_istore (L' := [some (.inr (.inr 309)), some (.inl x1), some (.inl x2), some (.inl z5), some (.inl n10)]) (ft_d o_Mo_removeRoute 42 rfl) rfl (Nat.le_of_ble_eq_true rfl) rfl ?_
      refine fv_aload_n (ft_d o_Mo_removeRoute 43 rfl) rfl rfl ?_
      refine fv_iload_n (ft_d o_Mo_removeRoute 44 rfl) rfl rfl ?_
      refine fv_iload_n (ft_d o_Mo_removeRoute 45 rfl) rfl rfl ?_
      obtain ⟨R11, c12, w⟩ := w
      refine fv_callv (st := []) rfl rfl (ft_mm (pre := [.inl x2, .inl x1, .inr (.inr 309)]) rfl) (ft_rnV (K' := k_Mo_routeChanged) (As := [.inl x1, .inl x2]) (ft_d o_Mo_removeRoute 46 rfl) ml_Mo_199 li_Mo_routeChanged.1 li_Mo_routeChanged.2 lw_Mo_routeChanged ⟨rfl, rfl, Nat.le_of_ble_eq_true rfl, Nat.le_of_ble_eq_true rfl⟩ sh_309 rfl rfl rfl rfl (Nat.le_of_ble_eq_true rfl) c12) (fun h5 hw => ?_)
      have w := w h5 hw
      refine fv_aload_n (ft_d o_Mo_removeRoute 47 rfl) rfl rfl ?_
      refine fv_getR (b := 310) (ft_d o_Mo_removeRoute 48 rfl) rfl fl_Mo_13 sh_309 rfl ly_309_1 ?_
      refine fv_bipush (ft_d o_Mo_removeRoute 49 rfl) rfl rfl ?_
      refine fv_ialdj (j := 6) (ft_d o_Mo_removeRoute 50 rfl) rfl sh_310 ⟨by decide, by decide⟩ rfl ?_
      refine fv_iload (ft_d o_Mo_removeRoute 51 rfl) rfl rfl ?_
      refine fv_isub (ft_d o_Mo_removeRoute 52 rfl) rfl ?_
      exact fv_ireturn (ft_d o_Mo_removeRoute 53 rfl) rfl w
    · have w := w.2 c
      refine fv_bipush (ft_d o_Mo_removeRoute 18 rfl) rfl rfl ?_
      exact fv_ireturn (ft_d o_Mo_removeRoute 19 rfl) rfl w
  · have w := w.2 (ft_if0.mp c)
    refine fv_iconst (ft_d o_Mo_removeRoute 4 rfl) rfl rfl ?_
    exact fv_ireturn (ft_d o_Mo_removeRoute 5 rfl) rfl w
set_option maxRecDepth 20000 in
theorem b_Mo_setCapacity_0 {x1 : Int} {h : ftH} {R : Option ftV → ftH → Prop} 
    (w : ((¬ ((1 : Int) ≤ x1 ∧ x1 ≤ (40 : Int)) → R (some (.inl 0)) h) ∧ ((1 : Int) ≤ x1 ∧ x1 ≤ (40 : Int) → ((¬ (h 310 3 = x1) → (∃ R3 : Option ftV → ftH → Prop, ft_C k_Mo_keepsPast [.inr (.inr 309)] h R3 ∧ ∀ h1 : ftH, R3 none h1 → (∀ h2 : ftH, h2 = ft_hs h1 310 3 x1 → ((h2 310 2 ≤ ft_mul 2 x1 → R (some (.inl 1)) h2) ∧ (¬ (h2 310 2 ≤ ft_mul 2 x1) → (∃ R5 : Option ftV → ftH → Prop, ft_C k_Mo_clears [.inr (.inr 309)] h2 R5 ∧ ∀ h3 : ftH, R5 none h3 → R (some (.inl 1)) h3)))))) ∧ (h 310 3 = x1 → R (some (.inl 0)) h))))) : ft_V k_Mo_setCapacity 0 [some (.inr (.inr 309)), some (.inl x1)] [] h R := by
  refine fv_iload_n (ft_d o_Mo_setCapacity 0 rfl) rfl rfl ?_
  refine fv_i2l (ft_d o_Mo_setCapacity 1 rfl) rfl ?_
  refine fv_lconst (z := 1) (ft_d o_Mo_setCapacity 2 rfl) rfl rfl ?_
  refine fv_ldc2 (v := 40) (z := 40) (ft_d o_Mo_setCapacity 3 rfl) rfl (ft_gt 1321 (by decide +kernel) rfl) rfl ?_
  refine fv_callif (st := []) (z := (if (1 : Int) ≤ x1 ∧ x1 ≤ (40 : Int) then 1 else 0)) (Or.inr rfl) rfl (ft_mm (pre := [.inr (.inl 40), .inr (.inl 1), .inr (.inl x1)]) rfl) (ft_rnS (K' := k_Mo_in) (As := [.inr (.inl x1), .inr (.inl 1), .inr (.inl 40)]) (ft_d o_Mo_setCapacity 4 rfl) ml_Mo_106 lz_Mo_in rfl lw_Mo_in ⟨rfl, rfl, Nat.le_of_ble_eq_true rfl, Nat.le_of_ble_eq_true rfl⟩ rfl rfl (Nat.le_of_ble_eq_true rfl) (c_Mo_in)) ?_
  refine fv_if_eq (tgt := 22) (ft_d o_Mo_setCapacity 5 rfl) rfl rfl (fun c => ?_) (fun c => ?_)
  · have w := w.1 (ft_if0.mp c)
    refine fv_iconst (ft_d o_Mo_setCapacity 12 rfl) rfl rfl ?_
    exact fv_zreturn (ft_d o_Mo_setCapacity 13 rfl) rfl (Or.inl rfl) w
  · have w := w.2 (ft_if1.mp c)
    refine fv_aload_n (ft_d o_Mo_setCapacity 6 rfl) rfl rfl ?_
    refine fv_getR (b := 310) (ft_d o_Mo_setCapacity 7 rfl) rfl fl_Mo_13 sh_309 rfl ly_309_1 ?_
    refine fv_iconst (ft_d o_Mo_setCapacity 8 rfl) rfl rfl ?_
    refine fv_ialdj (j := 3) (ft_d o_Mo_setCapacity 9 rfl) rfl sh_310 ⟨by decide, by decide⟩ rfl ?_
    refine fv_iload_n (ft_d o_Mo_setCapacity 10 rfl) rfl rfl ?_
    refine fv_icmp_ne (tgt := 24) (ft_d o_Mo_setCapacity 11 rfl) rfl rfl (fun c => ?_) (fun c => ?_)
    · have w := w.1 c
      refine fv_aload_n (ft_d o_Mo_setCapacity 14 rfl) rfl rfl ?_
      obtain ⟨R3, c4, w⟩ := w
      refine fv_callv (st := []) rfl rfl (ft_mm (pre := [.inr (.inr 309)]) rfl) (ft_rnV (K' := k_Mo_keepsPast) (As := []) (ft_d o_Mo_setCapacity 15 rfl) ml_Mo_196 li_Mo_keepsPast.1 li_Mo_keepsPast.2 lw_Mo_keepsPast ⟨rfl, rfl, Nat.le_of_ble_eq_true rfl, Nat.le_of_ble_eq_true rfl⟩ sh_309 rfl rfl rfl rfl (Nat.le_of_ble_eq_true rfl) c4) (fun h1 hw => ?_)
      have w := w h1 hw
      refine fv_aload_n (ft_d o_Mo_setCapacity 16 rfl) rfl rfl ?_
      refine fv_getR (b := 310) (ft_d o_Mo_setCapacity 17 rfl) rfl fl_Mo_13 sh_309 rfl ly_309_1 ?_
      refine fv_iconst (ft_d o_Mo_setCapacity 18 rfl) rfl rfl ?_
      refine fv_iload_n (ft_d o_Mo_setCapacity 19 rfl) rfl rfl ?_
      refine fv_iastj (j := 3) (ft_d o_Mo_setCapacity 20 rfl) rfl sh_310 ⟨by decide, by decide⟩ rfl ?_
      generalize eh2 : ft_hs h1 310 3 x1 = h2
      have w := w h2 eh2.symm
      refine fv_aload_n (ft_d o_Mo_setCapacity 21 rfl) rfl rfl ?_
      refine fv_getR (b := 310) (ft_d o_Mo_setCapacity 22 rfl) rfl fl_Mo_13 sh_309 rfl ly_309_1 ?_
      refine fv_iconst (ft_d o_Mo_setCapacity 23 rfl) rfl rfl ?_
      refine fv_ialdj (j := 2) (ft_d o_Mo_setCapacity 24 rfl) rfl sh_310 ⟨by decide, by decide⟩ rfl ?_
      refine fv_iconst (ft_d o_Mo_setCapacity 25 rfl) rfl rfl ?_
      refine fv_iload_n (ft_d o_Mo_setCapacity 26 rfl) rfl rfl ?_
      refine fv_imul (ft_d o_Mo_setCapacity 27 rfl) rfl ?_
      refine fv_icmp_le (tgt := 51) (ft_d o_Mo_setCapacity 28 rfl) rfl rfl (fun c => ?_) (fun c => ?_)
      · have w := w.1 c
        refine fv_iconst (ft_d o_Mo_setCapacity 31 rfl) rfl rfl ?_
        exact fv_zreturn (ft_d o_Mo_setCapacity 32 rfl) rfl (Or.inr rfl) w
      · have w := w.2 c
        refine fv_aload_n (ft_d o_Mo_setCapacity 29 rfl) rfl rfl ?_
        obtain ⟨R5, c6, w⟩ := w
        refine fv_callv (st := []) rfl rfl (ft_mm (pre := [.inr (.inr 309)]) rfl) (ft_rnV (K' := k_Mo_clears) (As := []) (ft_d o_Mo_setCapacity 30 rfl) ml_Mo_186 li_Mo_clears.1 li_Mo_clears.2 lw_Mo_clears ⟨rfl, rfl, Nat.le_of_ble_eq_true rfl, Nat.le_of_ble_eq_true rfl⟩ sh_309 rfl rfl rfl rfl (Nat.le_of_ble_eq_true rfl) c6) (fun h3 hw => ?_)
        have w := w h3 hw
        refine fv_iconst (ft_d o_Mo_setCapacity 31 rfl) rfl rfl ?_
        exact fv_zreturn (ft_d o_Mo_setCapacity 32 rfl) rfl (Or.inr rfl) w
    · have w := w.2 c
      refine fv_iconst (ft_d o_Mo_setCapacity 12 rfl) rfl rfl ?_
      exact fv_zreturn (ft_d o_Mo_setCapacity 13 rfl) rfl (Or.inl rfl) w
set_option maxRecDepth 20000 in
theorem b_Mo_dropsSeen_0 {x1 : Int} {h : ftH} {R : Option ftV → ftH → Prop} 
    (w : (∀ n1 : Int, n1 = ft_add 190 (ft_mul 2 x1) → ft_V k_Mo_dropsSeen 8 [some (.inr (.inr 309)), none, some (.inl n1)] [] h R)) : ft_V k_Mo_dropsSeen 0 [some (.inr (.inr 309)), some (.inl x1), none] [] h R := by
  refine fv_sipush (ft_d o_Mo_dropsSeen 0 rfl) rfl rfl ?_
  refine fv_iconst (ft_d o_Mo_dropsSeen 1 rfl) rfl rfl ?_
  refine fv_iload_n (ft_d o_Mo_dropsSeen 2 rfl) rfl rfl ?_
  refine fv_imul (ft_d o_Mo_dropsSeen 3 rfl) rfl ?_
  refine fv_iadd (ft_d o_Mo_dropsSeen 4 rfl) rfl ?_
  generalize en1 : ft_add 190 (ft_mul 2 x1) = n1
  have w := w n1 en1.symm
  refine fv_istore_n (L' := [some (.inr (.inr 309)), some (.inl x1), some (.inl n1)]) (ft_d o_Mo_dropsSeen 5 rfl) rfl (Nat.le_of_ble_eq_true rfl) rfl ?_
  refine fv_mask (M := [true, false, true]) rfl ?_
  exact w
set_option maxRecDepth 20000 in
theorem b_Mo_dropsSeen_8 {x2 : Int} {h : ftH} {R : Option ftV → ftH → Prop} 
    (w : ((ft_sub (ft_add 190 (ft_mul 2 (h 310 1))) 2 ≤ x2 → (∀ h1 : ftH, h1 = ft_hs h 310 1 (ft_sub (h 310 1) 1) → R none h1)) ∧ (¬ (ft_sub (ft_add 190 (ft_mul 2 (h 310 1))) 2 ≤ x2) → ((0 ≤ ft_add x2 2 ∧ ft_add x2 2 < 520) ∧ ((0 ≤ x2 ∧ x2 < 520) ∧ (∀ h2 : ftH, h2 = ft_hs h 310 x2.toNat (h 310 (ft_add x2 2).toNat) → ft_V k_Mo_dropsSeen 8 [some (.inr (.inr 309)), none, some (.inl (ft_add x2 1))] [] h2 R)))))) : ft_V k_Mo_dropsSeen 8 [some (.inr (.inr 309)), none, some (.inl x2)] [] h R := by
  refine fv_iload_n (ft_d o_Mo_dropsSeen 6 rfl) rfl rfl ?_
  refine fv_sipush (ft_d o_Mo_dropsSeen 7 rfl) rfl rfl ?_
  refine fv_iconst (ft_d o_Mo_dropsSeen 8 rfl) rfl rfl ?_
  refine fv_aload_n (ft_d o_Mo_dropsSeen 9 rfl) rfl rfl ?_
  refine fv_getR (b := 310) (ft_d o_Mo_dropsSeen 10 rfl) rfl fl_Mo_13 sh_309 rfl ly_309_1 ?_
  refine fv_iconst (ft_d o_Mo_dropsSeen 11 rfl) rfl rfl ?_
  refine fv_ialdj (j := 1) (ft_d o_Mo_dropsSeen 12 rfl) rfl sh_310 ⟨by decide, by decide⟩ rfl ?_
  refine fv_imul (ft_d o_Mo_dropsSeen 13 rfl) rfl ?_
  refine fv_iadd (ft_d o_Mo_dropsSeen 14 rfl) rfl ?_
  refine fv_iconst (ft_d o_Mo_dropsSeen 15 rfl) rfl rfl ?_
  refine fv_isub (ft_d o_Mo_dropsSeen 16 rfl) rfl ?_
  refine fv_icmp_ge (tgt := 46) (ft_d o_Mo_dropsSeen 17 rfl) rfl rfl (fun c => ?_) (fun c => ?_)
  · have w := w.1 c
    refine fv_aload_n (ft_d o_Mo_dropsSeen 30 rfl) rfl rfl ?_
    refine fv_getR (b := 310) (ft_d o_Mo_dropsSeen 31 rfl) rfl fl_Mo_13 sh_309 rfl ly_309_1 ?_
    refine fv_iconst (ft_d o_Mo_dropsSeen 32 rfl) rfl rfl ?_
    refine fv_dup2 (ft_d o_Mo_dropsSeen 33 rfl) rfl rfl rfl ?_
    refine fv_ialdj (j := 1) (ft_d o_Mo_dropsSeen 34 rfl) rfl sh_310 ⟨by decide, by decide⟩ rfl ?_
    refine fv_iconst (ft_d o_Mo_dropsSeen 35 rfl) rfl rfl ?_
    refine fv_isub (ft_d o_Mo_dropsSeen 36 rfl) rfl ?_
    refine fv_iastj (j := 1) (ft_d o_Mo_dropsSeen 37 rfl) rfl sh_310 ⟨by decide, by decide⟩ rfl ?_
    generalize eh1 : ft_hs h 310 1 (ft_sub (h 310 1) 1) = h1
    have w := w h1 eh1.symm
    exact fv_return (ft_d o_Mo_dropsSeen 38 rfl) rfl w
  · have w := w.2 c
    refine fv_aload_n (ft_d o_Mo_dropsSeen 18 rfl) rfl rfl ?_
    refine fv_getR (b := 310) (ft_d o_Mo_dropsSeen 19 rfl) rfl fl_Mo_13 sh_309 rfl ly_309_1 ?_
    refine fv_iload_n (ft_d o_Mo_dropsSeen 20 rfl) rfl rfl ?_
    refine fv_aload_n (ft_d o_Mo_dropsSeen 21 rfl) rfl rfl ?_
    refine fv_getR (b := 310) (ft_d o_Mo_dropsSeen 22 rfl) rfl fl_Mo_13 sh_309 rfl ly_309_1 ?_
    refine fv_iload_n (ft_d o_Mo_dropsSeen 23 rfl) rfl rfl ?_
    refine fv_iconst (ft_d o_Mo_dropsSeen 24 rfl) rfl rfl ?_
    refine fv_iadd (ft_d o_Mo_dropsSeen 25 rfl) rfl ?_
    refine fv_iald (ft_d o_Mo_dropsSeen 26 rfl) rfl sh_310 w.1 ?_
    have w := w.2
    refine fv_iast (ft_d o_Mo_dropsSeen 27 rfl) rfl sh_310 w.1 ?_
    have w := w.2
    generalize eh2 : ft_hs h 310 x2.toNat (h 310 (ft_add x2 2).toNat) = h2
    have w := w h2 eh2.symm
    refine fv_iinc (L' := [some (.inr (.inr 309)), none, some (.inl (ft_add x2 1))]) (ft_d o_Mo_dropsSeen 28 rfl) rfl rfl (Nat.le_of_ble_eq_true rfl) rfl ?_
    refine fv_goto (pc' := 8) (ft_d o_Mo_dropsSeen 29 rfl) rfl ?_
    exact w
set_option maxRecDepth 20000 in
theorem b_Mo_rarest_0  {h : ftH} {R : Option ftV → ftH → Prop} 
    (w : ft_V k_Mo_rarest 4 [some (.inr (.inr 309)), some (.inl 0), some (.inl 1)] [] h R) : ft_V k_Mo_rarest 0 [some (.inr (.inr 309)), none, none] [] h R := by
  refine fv_iconst (ft_d o_Mo_rarest 0 rfl) rfl rfl ?_
  refine fv_istore_n (L' := [some (.inr (.inr 309)), some (.inl 0), none]) (ft_d o_Mo_rarest 1 rfl) rfl (Nat.le_of_ble_eq_true rfl) rfl ?_
  refine fv_iconst (ft_d o_Mo_rarest 2 rfl) rfl rfl ?_
  refine fv_istore_n (L' := [some (.inr (.inr 309)), some (.inl 0), some (.inl 1)]) (ft_d o_Mo_rarest 3 rfl) rfl (Nat.le_of_ble_eq_true rfl) rfl ?_
  exact w
set_option maxRecDepth 20000 in
theorem b_Mo_rarest_4 {x1 : Int} {x2 : Int} {h : ftH} {R : Option ftV → ftH → Prop} 
    (w : ((h 310 1 ≤ x2 → R (some (.inl x1)) h) ∧ (¬ (h 310 1 ≤ x2) → ((0 ≤ x2 ∧ x2 < 40) ∧ ((0 ≤ x1 ∧ x1 < 40) ∧ ((h 310 (191 + 2 * x1.toNat) ≤ h 310 (191 + 2 * x2.toNat) → ft_V k_Mo_rarest 4 [some (.inr (.inr 309)), some (.inl x1), some (.inl (ft_add x2 1))] [] h R) ∧ (¬ (h 310 (191 + 2 * x1.toNat) ≤ h 310 (191 + 2 * x2.toNat)) → ft_V k_Mo_rarest 4 [some (.inr (.inr 309)), some (.inl x2), some (.inl (ft_add x2 1))] [] h R))))))) : ft_V k_Mo_rarest 4 [some (.inr (.inr 309)), some (.inl x1), some (.inl x2)] [] h R := by
  refine fv_iload_n (ft_d o_Mo_rarest 4 rfl) rfl rfl ?_
  refine fv_aload_n (ft_d o_Mo_rarest 5 rfl) rfl rfl ?_
  refine fv_getR (b := 310) (ft_d o_Mo_rarest 6 rfl) rfl fl_Mo_13 sh_309 rfl ly_309_1 ?_
  refine fv_iconst (ft_d o_Mo_rarest 7 rfl) rfl rfl ?_
  refine fv_ialdj (j := 1) (ft_d o_Mo_rarest 8 rfl) rfl sh_310 ⟨by decide, by decide⟩ rfl ?_
  refine fv_icmp_ge (tgt := 35) (ft_d o_Mo_rarest 9 rfl) rfl rfl (fun c => ?_) (fun c => ?_)
  · have w := w.1 c
    refine fv_iload_n (ft_d o_Mo_rarest 21 rfl) rfl rfl ?_
    exact fv_ireturn (ft_d o_Mo_rarest 22 rfl) rfl w
  · have w := w.2 c
    refine fv_aload_n (ft_d o_Mo_rarest 10 rfl) rfl rfl ?_
    refine fv_iload_n (ft_d o_Mo_rarest 11 rfl) rfl rfl ?_
    refine fv_callif (st := []) (z := h 310 (191 + 2 * x2.toNat)) (Or.inl rfl) rfl (ft_mm (pre := [.inl x2, .inr (.inr 309)]) rfl) (ft_rnV (K' := k_Mo_timesAt) (As := [.inl x2]) (ft_d o_Mo_rarest 12 rfl) ml_Mo_205 li_Mo_timesAt.1 li_Mo_timesAt.2 lw_Mo_timesAt ⟨rfl, rfl, Nat.le_of_ble_eq_true rfl, Nat.le_of_ble_eq_true rfl⟩ sh_309 rfl rfl rfl rfl (Nat.le_of_ble_eq_true rfl) (c_Mo_timesAt w.1)) ?_
    have w := w.2
    refine fv_aload_n (ft_d o_Mo_rarest 13 rfl) rfl rfl ?_
    refine fv_iload_n (ft_d o_Mo_rarest 14 rfl) rfl rfl ?_
    refine fv_callif (st := [.inl (h 310 (191 + 2 * x2.toNat))]) (z := h 310 (191 + 2 * x1.toNat)) (Or.inl rfl) rfl (ft_mm (pre := [.inl x1, .inr (.inr 309)]) rfl) (ft_rnV (K' := k_Mo_timesAt) (As := [.inl x1]) (ft_d o_Mo_rarest 15 rfl) ml_Mo_205 li_Mo_timesAt.1 li_Mo_timesAt.2 lw_Mo_timesAt ⟨rfl, rfl, Nat.le_of_ble_eq_true rfl, Nat.le_of_ble_eq_true rfl⟩ sh_309 rfl rfl rfl rfl (Nat.le_of_ble_eq_true rfl) (c_Mo_timesAt w.1)) ?_
    have w := w.2
    refine fv_icmp_ge (tgt := 29) (ft_d o_Mo_rarest 16 rfl) rfl rfl (fun c => ?_) (fun c => ?_)
    · have w := w.1 c
      refine fv_iinc (L' := [some (.inr (.inr 309)), some (.inl x1), some (.inl (ft_add x2 1))]) (ft_d o_Mo_rarest 19 rfl) rfl rfl (Nat.le_of_ble_eq_true rfl) rfl ?_
      refine fv_goto (pc' := 4) (ft_d o_Mo_rarest 20 rfl) rfl ?_
      exact w
    · have w := w.2 c
      refine fv_iload_n (ft_d o_Mo_rarest 17 rfl) rfl rfl ?_
      refine fv_istore_n (L' := [some (.inr (.inr 309)), some (.inl x2), some (.inl x2)]) (ft_d o_Mo_rarest 18 rfl) rfl (Nat.le_of_ble_eq_true rfl) rfl ?_
      refine fv_iinc (L' := [some (.inr (.inr 309)), some (.inl x2), some (.inl (ft_add x2 1))]) (ft_d o_Mo_rarest 19 rfl) rfl rfl (Nat.le_of_ble_eq_true rfl) rfl ?_
      refine fv_goto (pc' := 4) (ft_d o_Mo_rarest 20 rfl) rfl ?_
      exact w
set_option maxRecDepth 20000 in
theorem b_Mo_logs_0 {x1 : Int} {x2 : Int} {h : ftH} {R : Option ftV → ftH → Prop} 
    (w : ft_V k_Mo_logs 2 [some (.inr (.inr 309)), some (.inl x1), some (.inl x2), some (.inl 0)] [] h R) : ft_V k_Mo_logs 0 [some (.inr (.inr 309)), some (.inl x1), some (.inl x2), none] [] h R := by
  refine fv_iconst (ft_d o_Mo_logs 0 rfl) rfl rfl ?_
  refine fv_istore_n (L' := [some (.inr (.inr 309)), some (.inl x1), some (.inl x2), some (.inl 0)]) (ft_d o_Mo_logs 1 rfl) rfl (Nat.le_of_ble_eq_true rfl) rfl ?_
  exact w
set_option maxRecDepth 20000 in
theorem b_Mo_logs_2 {x1 : Int} {x2 : Int} {x3 : Int} {h : ftH} {R : Option ftV → ftH → Prop} 
    (w : ((h 310 1 ≤ x3 → ((¬ (h 310 1 = 40) → ((0 ≤ ft_add 190 (ft_mul 2 (h 310 1)) ∧ ft_add 190 (ft_mul 2 (h 310 1)) < 520) ∧ (∀ h1 : ftH, h1 = ft_hs h 310 (ft_add 190 (ft_mul 2 (h 310 1))).toNat x1 → ((0 ≤ ft_add (ft_add 190 (ft_mul 2 (h1 310 1))) 1 ∧ ft_add (ft_add 190 (ft_mul 2 (h1 310 1))) 1 < 520) ∧ (∀ h2 : ftH, h2 = ft_hs h1 310 (ft_add (ft_add 190 (ft_mul 2 (h1 310 1))) 1).toNat x2 → (∀ h3 : ftH, h3 = ft_hs h2 310 1 (ft_add (h2 310 1) 1) → R none h3)))))) ∧ (h 310 1 = 40 → (∃ R1 : Option ftV → ftH → Prop, ft_C k_Mo_rarest [.inr (.inr 309)] h R1 ∧ ∀ (z3 : Int) (h4 : ftH), ft_in z3 → R1 (some (.inl z3)) h4 → (∃ R4 : Option ftV → ftH → Prop, ft_C k_Mo_dropsSeen [.inr (.inr 309), .inl z3] h4 R4 ∧ ∀ h5 : ftH, R4 none h5 → ((0 ≤ ft_add 190 (ft_mul 2 (h5 310 1)) ∧ ft_add 190 (ft_mul 2 (h5 310 1)) < 520) ∧ (∀ h6 : ftH, h6 = ft_hs h5 310 (ft_add 190 (ft_mul 2 (h5 310 1))).toNat x1 → ((0 ≤ ft_add (ft_add 190 (ft_mul 2 (h6 310 1))) 1 ∧ ft_add (ft_add 190 (ft_mul 2 (h6 310 1))) 1 < 520) ∧ (∀ h7 : ftH, h7 = ft_hs h6 310 (ft_add (ft_add 190 (ft_mul 2 (h6 310 1))) 1).toNat x2 → (∀ h8 : ftH, h8 = ft_hs h7 310 1 (ft_add (h7 310 1) 1) → R none h8)))))))))) ∧ (¬ (h 310 1 ≤ x3) → ((0 ≤ x3 ∧ x3 < 40) ∧ ((h 310 (190 + 2 * x3.toNat) = x1 → ((0 ≤ x3 ∧ x3 < 40) ∧ ((ft_add (h 310 (191 + 2 * x3.toNat)) x2 ≤ 999999 → ((0 ≤ x3 ∧ x3 < 40) ∧ ((0 ≤ ft_add (ft_add 190 (ft_mul 2 x3)) 1 ∧ ft_add (ft_add 190 (ft_mul 2 x3)) 1 < 520) ∧ (∀ h9 : ftH, h9 = ft_hs h 310 (ft_add (ft_add 190 (ft_mul 2 x3)) 1).toNat (ft_add (h 310 (191 + 2 * x3.toNat)) x2) → R none h9)))) ∧ (¬ (ft_add (h 310 (191 + 2 * x3.toNat)) x2 ≤ 999999) → ((0 ≤ ft_add (ft_add 190 (ft_mul 2 x3)) 1 ∧ ft_add (ft_add 190 (ft_mul 2 x3)) 1 < 520) ∧ (∀ h10 : ftH, h10 = ft_hs h 310 (ft_add (ft_add 190 (ft_mul 2 x3)) 1).toNat 999999 → R none h10)))))) ∧ (¬ (h 310 (190 + 2 * x3.toNat) = x1) → ft_V k_Mo_logs 2 [some (.inr (.inr 309)), some (.inl x1), some (.inl x2), some (.inl (ft_add x3 1))] [] h R)))))) : ft_V k_Mo_logs 2 [some (.inr (.inr 309)), some (.inl x1), some (.inl x2), some (.inl x3)] [] h R := by
  refine fv_iload_n (ft_d o_Mo_logs 2 rfl) rfl rfl ?_
  refine fv_aload_n (ft_d o_Mo_logs 3 rfl) rfl rfl ?_
  refine fv_getR (b := 310) (ft_d o_Mo_logs 4 rfl) rfl fl_Mo_13 sh_309 rfl ly_309_1 ?_
  refine fv_iconst (ft_d o_Mo_logs 5 rfl) rfl rfl ?_
  refine fv_ialdj (j := 1) (ft_d o_Mo_logs 6 rfl) rfl sh_310 ⟨by decide, by decide⟩ rfl ?_
  refine fv_icmp_ge (tgt := 69) (ft_d o_Mo_logs 7 rfl) rfl rfl (fun c => ?_) (fun c => ?_)
  · have w := w.1 c
    refine fv_aload_n (ft_d o_Mo_logs 41 rfl) rfl rfl ?_
    refine fv_getR (b := 310) (ft_d o_Mo_logs 42 rfl) rfl fl_Mo_13 sh_309 rfl ly_309_1 ?_
    refine fv_iconst (ft_d o_Mo_logs 43 rfl) rfl rfl ?_
    refine fv_ialdj (j := 1) (ft_d o_Mo_logs 44 rfl) rfl sh_310 ⟨by decide, by decide⟩ rfl ?_
    refine fv_bipush (ft_d o_Mo_logs 45 rfl) rfl rfl ?_
    refine fv_icmp_ne (tgt := 88) (ft_d o_Mo_logs 46 rfl) rfl rfl (fun c => ?_) (fun c => ?_)
    · have w := w.1 c
      refine fv_aload_n (ft_d o_Mo_logs 51 rfl) rfl rfl ?_
      refine fv_getR (b := 310) (ft_d o_Mo_logs 52 rfl) rfl fl_Mo_13 sh_309 rfl ly_309_1 ?_
      refine fv_sipush (ft_d o_Mo_logs 53 rfl) rfl rfl ?_
      refine fv_iconst (ft_d o_Mo_logs 54 rfl) rfl rfl ?_
      refine fv_aload_n (ft_d o_Mo_logs 55 rfl) rfl rfl ?_
      refine fv_getR (b := 310) (ft_d o_Mo_logs 56 rfl) rfl fl_Mo_13 sh_309 rfl ly_309_1 ?_
      refine fv_iconst (ft_d o_Mo_logs 57 rfl) rfl rfl ?_
      refine fv_ialdj (j := 1) (ft_d o_Mo_logs 58 rfl) rfl sh_310 ⟨by decide, by decide⟩ rfl ?_
      refine fv_imul (ft_d o_Mo_logs 59 rfl) rfl ?_
      refine fv_iadd (ft_d o_Mo_logs 60 rfl) rfl ?_
      refine fv_iload_n (ft_d o_Mo_logs 61 rfl) rfl rfl ?_
      refine fv_iast (ft_d o_Mo_logs 62 rfl) rfl sh_310 w.1 ?_
      have w := w.2
      generalize eh1 : ft_hs h 310 (ft_add 190 (ft_mul 2 (h 310 1))).toNat x1 = h1
      have w := w h1 eh1.symm
      refine fv_aload_n (ft_d o_Mo_logs 63 rfl) rfl rfl ?_
      refine fv_getR (b := 310) (ft_d o_Mo_logs 64 rfl) rfl fl_Mo_13 sh_309 rfl ly_309_1 ?_
      refine fv_sipush (ft_d o_Mo_logs 65 rfl) rfl rfl ?_
      refine fv_iconst (ft_d o_Mo_logs 66 rfl) rfl rfl ?_
      refine fv_aload_n (ft_d o_Mo_logs 67 rfl) rfl rfl ?_
      refine fv_getR (b := 310) (ft_d o_Mo_logs 68 rfl) rfl fl_Mo_13 sh_309 rfl ly_309_1 ?_
      refine fv_iconst (ft_d o_Mo_logs 69 rfl) rfl rfl ?_
      refine fv_ialdj (j := 1) (ft_d o_Mo_logs 70 rfl) rfl sh_310 ⟨by decide, by decide⟩ rfl ?_
      refine fv_imul (ft_d o_Mo_logs 71 rfl) rfl ?_
      refine fv_iadd (ft_d o_Mo_logs 72 rfl) rfl ?_
      refine fv_iconst (ft_d o_Mo_logs 73 rfl) rfl rfl ?_
      refine fv_iadd (ft_d o_Mo_logs 74 rfl) rfl ?_
      refine fv_iload_n (ft_d o_Mo_logs 75 rfl) rfl rfl ?_
      refine fv_iast (ft_d o_Mo_logs 76 rfl) rfl sh_310 w.1 ?_
      have w := w.2
      generalize eh2 : ft_hs h1 310 (ft_add (ft_add 190 (ft_mul 2 (h1 310 1))) 1).toNat x2 = h2
      have w := w h2 eh2.symm
      refine fv_aload_n (ft_d o_Mo_logs 77 rfl) rfl rfl ?_
      refine fv_getR (b := 310) (ft_d o_Mo_logs 78 rfl) rfl fl_Mo_13 sh_309 rfl ly_309_1 ?_
      refine fv_iconst (ft_d o_Mo_logs 79 rfl) rfl rfl ?_
      refine fv_dup2 (ft_d o_Mo_logs 80 rfl) rfl rfl rfl ?_
      refine fv_ialdj (j := 1) (ft_d o_Mo_logs 81 rfl) rfl sh_310 ⟨by decide, by decide⟩ rfl ?_
      refine fv_iconst (ft_d o_Mo_logs 82 rfl) rfl rfl ?_
      refine fv_iadd (ft_d o_Mo_logs 83 rfl) rfl ?_
      refine fv_iastj (j := 1) (ft_d o_Mo_logs 84 rfl) rfl sh_310 ⟨by decide, by decide⟩ rfl ?_
      generalize eh3 : ft_hs h2 310 1 (ft_add (h2 310 1) 1) = h3
      have w := w h3 eh3.symm
      exact fv_return (ft_d o_Mo_logs 85 rfl) rfl w
    · have w := w.2 c
      refine fv_aload_n (ft_d o_Mo_logs 47 rfl) rfl rfl ?_
      refine fv_aload_n (ft_d o_Mo_logs 48 rfl) rfl rfl ?_
      obtain ⟨R1, c2, w⟩ := w
      refine fv_calli (st := [.inr (.inr 309)]) (Or.inl rfl) rfl (ft_mm (pre := [.inr (.inr 309)]) rfl) (ft_rnV (K' := k_Mo_rarest) (As := []) (ft_d o_Mo_logs 49 rfl) ml_Mo_212 li_Mo_rarest.1 li_Mo_rarest.2 lw_Mo_rarest ⟨rfl, rfl, Nat.le_of_ble_eq_true rfl, Nat.le_of_ble_eq_true rfl⟩ sh_309 rfl rfl rfl rfl (Nat.le_of_ble_eq_true rfl) c2) (fun z3 h4 hz hw => ?_)
      have w := w z3 h4 hz hw
      obtain ⟨R4, c5, w⟩ := w
      refine fv_callv (st := []) rfl rfl (ft_mm (pre := [.inl z3, .inr (.inr 309)]) rfl) (ft_rnV (K' := k_Mo_dropsSeen) (As := [.inl z3]) (ft_d o_Mo_logs 50 rfl) ml_Mo_216 li_Mo_dropsSeen.1 li_Mo_dropsSeen.2 lw_Mo_dropsSeen ⟨rfl, rfl, Nat.le_of_ble_eq_true rfl, Nat.le_of_ble_eq_true rfl⟩ sh_309 rfl rfl rfl rfl (Nat.le_of_ble_eq_true rfl) c5) (fun h5 hw => ?_)
      have w := w h5 hw
      refine fv_aload_n (ft_d o_Mo_logs 51 rfl) rfl rfl ?_
      refine fv_getR (b := 310) (ft_d o_Mo_logs 52 rfl) rfl fl_Mo_13 sh_309 rfl ly_309_1 ?_
      refine fv_sipush (ft_d o_Mo_logs 53 rfl) rfl rfl ?_
      refine fv_iconst (ft_d o_Mo_logs 54 rfl) rfl rfl ?_
      refine fv_aload_n (ft_d o_Mo_logs 55 rfl) rfl rfl ?_
      refine fv_getR (b := 310) (ft_d o_Mo_logs 56 rfl) rfl fl_Mo_13 sh_309 rfl ly_309_1 ?_
      refine fv_iconst (ft_d o_Mo_logs 57 rfl) rfl rfl ?_
      refine fv_ialdj (j := 1) (ft_d o_Mo_logs 58 rfl) rfl sh_310 ⟨by decide, by decide⟩ rfl ?_
      refine fv_imul (ft_d o_Mo_logs 59 rfl) rfl ?_
      refine fv_iadd (ft_d o_Mo_logs 60 rfl) rfl ?_
      refine fv_iload_n (ft_d o_Mo_logs 61 rfl) rfl rfl ?_
      refine fv_iast (ft_d o_Mo_logs 62 rfl) rfl sh_310 w.1 ?_
      have w := w.2
      generalize eh6 : ft_hs h5 310 (ft_add 190 (ft_mul 2 (h5 310 1))).toNat x1 = h6
      have w := w h6 eh6.symm
      refine fv_aload_n (ft_d o_Mo_logs 63 rfl) rfl rfl ?_
      refine fv_getR (b := 310) (ft_d o_Mo_logs 64 rfl) rfl fl_Mo_13 sh_309 rfl ly_309_1 ?_
      refine fv_sipush (ft_d o_Mo_logs 65 rfl) rfl rfl ?_
      refine fv_iconst (ft_d o_Mo_logs 66 rfl) rfl rfl ?_
      refine fv_aload_n (ft_d o_Mo_logs 67 rfl) rfl rfl ?_
      refine fv_getR (b := 310) (ft_d o_Mo_logs 68 rfl) rfl fl_Mo_13 sh_309 rfl ly_309_1 ?_
      refine fv_iconst (ft_d o_Mo_logs 69 rfl) rfl rfl ?_
      refine fv_ialdj (j := 1) (ft_d o_Mo_logs 70 rfl) rfl sh_310 ⟨by decide, by decide⟩ rfl ?_
      refine fv_imul (ft_d o_Mo_logs 71 rfl) rfl ?_
      refine fv_iadd (ft_d o_Mo_logs 72 rfl) rfl ?_
      refine fv_iconst (ft_d o_Mo_logs 73 rfl) rfl rfl ?_
      refine fv_iadd (ft_d o_Mo_logs 74 rfl) rfl ?_
      refine fv_iload_n (ft_d o_Mo_logs 75 rfl) rfl rfl ?_
      refine fv_iast (ft_d o_Mo_logs 76 rfl) rfl sh_310 w.1 ?_
      have w := w.2
      generalize eh7 : ft_hs h6 310 (ft_add (ft_add 190 (ft_mul 2 (h6 310 1))) 1).toNat x2 = h7
      have w := w h7 eh7.symm
      refine fv_aload_n (ft_d o_Mo_logs 77 rfl) rfl rfl ?_
      refine fv_getR (b := 310) (ft_d o_Mo_logs 78 rfl) rfl fl_Mo_13 sh_309 rfl ly_309_1 ?_
      refine fv_iconst (ft_d o_Mo_logs 79 rfl) rfl rfl ?_
      refine fv_dup2 (ft_d o_Mo_logs 80 rfl) rfl rfl rfl ?_
      refine fv_ialdj (j := 1) (ft_d o_Mo_logs 81 rfl) rfl sh_310 ⟨by decide, by decide⟩ rfl ?_
      refine fv_iconst (ft_d o_Mo_logs 82 rfl) rfl rfl ?_
      refine fv_iadd (ft_d o_Mo_logs 83 rfl) rfl ?_
      refine fv_iastj (j := 1) (ft_d o_Mo_logs 84 rfl) rfl sh_310 ⟨by decide, by decide⟩ rfl ?_
      generalize eh8 : ft_hs h7 310 1 (ft_add (h7 310 1) 1) = h8
      have w := w h8 eh8.symm
      exact fv_return (ft_d o_Mo_logs 85 rfl) rfl w
  · have w := w.2 c
    refine fv_aload_n (ft_d o_Mo_logs 8 rfl) rfl rfl ?_
    refine fv_iload_n (ft_d o_Mo_logs 9 rfl) rfl rfl ?_
    refine fv_callif (st := []) (z := h 310 (190 + 2 * x3.toNat)) (Or.inl rfl) rfl (ft_mm (pre := [.inl x3, .inr (.inr 309)]) rfl) (ft_rnV (K' := k_Mo_seenAt) (As := [.inl x3]) (ft_d o_Mo_logs 10 rfl) ml_Mo_208 li_Mo_seenAt.1 li_Mo_seenAt.2 lw_Mo_seenAt ⟨rfl, rfl, Nat.le_of_ble_eq_true rfl, Nat.le_of_ble_eq_true rfl⟩ sh_309 rfl rfl rfl rfl (Nat.le_of_ble_eq_true rfl) (c_Mo_seenAt w.1)) ?_
    have w := w.2
    refine fv_iload_n (ft_d o_Mo_logs 11 rfl) rfl rfl ?_
    refine fv_icmp_eq (tgt := 24) (ft_d o_Mo_logs 12 rfl) rfl rfl (fun c => ?_) (fun c => ?_)
    · have w := w.1 c
      refine fv_aload_n (ft_d o_Mo_logs 14 rfl) rfl rfl ?_
      refine fv_getR (b := 310) (ft_d o_Mo_logs 15 rfl) rfl fl_Mo_13 sh_309 rfl ly_309_1 ?_
      refine fv_sipush (ft_d o_Mo_logs 16 rfl) rfl rfl ?_
      refine fv_iconst (ft_d o_Mo_logs 17 rfl) rfl rfl ?_
      refine fv_iload_n (ft_d o_Mo_logs 18 rfl) rfl rfl ?_
      refine fv_imul (ft_d o_Mo_logs 19 rfl) rfl ?_
      refine fv_iadd (ft_d o_Mo_logs 20 rfl) rfl ?_
      refine fv_iconst (ft_d o_Mo_logs 21 rfl) rfl rfl ?_
      refine fv_iadd (ft_d o_Mo_logs 22 rfl) rfl ?_
      refine fv_aload_n (ft_d o_Mo_logs 23 rfl) rfl rfl ?_
      refine fv_iload_n (ft_d o_Mo_logs 24 rfl) rfl rfl ?_
      refine fv_callif (st := [.inl (ft_add (ft_add 190 (ft_mul 2 x3)) 1), .inr (.inr 310)]) (z := h 310 (191 + 2 * x3.toNat)) (Or.inl rfl) rfl (ft_mm (pre := [.inl x3, .inr (.inr 309)]) rfl) (ft_rnV (K' := k_Mo_timesAt) (As := [.inl x3]) (ft_d o_Mo_logs 25 rfl) ml_Mo_205 li_Mo_timesAt.1 li_Mo_timesAt.2 lw_Mo_timesAt ⟨rfl, rfl, Nat.le_of_ble_eq_true rfl, Nat.le_of_ble_eq_true rfl⟩ sh_309 rfl rfl rfl rfl (Nat.le_of_ble_eq_true rfl) (c_Mo_timesAt w.1)) ?_
      have w := w.2
      refine fv_iload_n (ft_d o_Mo_logs 26 rfl) rfl rfl ?_
      refine fv_iadd (ft_d o_Mo_logs 27 rfl) rfl ?_
      refine fv_ldc (v := 999999) (z := 999999) (ft_d o_Mo_logs 28 rfl) rfl (ft_gt 1339 (by decide +kernel) rfl) rfl ?_
      refine fv_icmp_le (tgt := 54) (ft_d o_Mo_logs 29 rfl) rfl rfl (fun c => ?_) (fun c => ?_)
      · have w := w.1 c
        refine fv_aload_n (ft_d o_Mo_logs 32 rfl) rfl rfl ?_
        refine fv_iload_n (ft_d o_Mo_logs 33 rfl) rfl rfl ?_
        refine fv_callif (st := [.inl (ft_add (ft_add 190 (ft_mul 2 x3)) 1), .inr (.inr 310)]) (z := h 310 (191 + 2 * x3.toNat)) (Or.inl rfl) rfl (ft_mm (pre := [.inl x3, .inr (.inr 309)]) rfl) (ft_rnV (K' := k_Mo_timesAt) (As := [.inl x3]) (ft_d o_Mo_logs 34 rfl) ml_Mo_205 li_Mo_timesAt.1 li_Mo_timesAt.2 lw_Mo_timesAt ⟨rfl, rfl, Nat.le_of_ble_eq_true rfl, Nat.le_of_ble_eq_true rfl⟩ sh_309 rfl rfl rfl rfl (Nat.le_of_ble_eq_true rfl) (c_Mo_timesAt w.1)) ?_
        have w := w.2
        refine fv_iload_n (ft_d o_Mo_logs 35 rfl) rfl rfl ?_
        refine fv_iadd (ft_d o_Mo_logs 36 rfl) rfl ?_
        refine fv_iast (ft_d o_Mo_logs 37 rfl) rfl sh_310 w.1 ?_
        have w := w.2
        generalize eh9 : ft_hs h 310 (ft_add (ft_add 190 (ft_mul 2 x3)) 1).toNat (ft_add (h 310 (191 + 2 * x3.toNat)) x2) = h9
        have w := w h9 eh9.symm
        exact fv_return (ft_d o_Mo_logs 38 rfl) rfl w
      · have w := w.2 c
        refine fv_ldc (v := 999999) (z := 999999) (ft_d o_Mo_logs 30 rfl) rfl (ft_gt 1339 (by decide +kernel) rfl) rfl ?_
        refine fv_goto (pc' := 61) (ft_d o_Mo_logs 31 rfl) rfl ?_
        refine fv_iast (ft_d o_Mo_logs 37 rfl) rfl sh_310 w.1 ?_
        have w := w.2
        generalize eh10 : ft_hs h 310 (ft_add (ft_add 190 (ft_mul 2 x3)) 1).toNat 999999 = h10
        have w := w h10 eh10.symm
        exact fv_return (ft_d o_Mo_logs 38 rfl) rfl w
    · have w := w.2 c
      refine fv_goto (pc' := 63) (ft_d o_Mo_logs 13 rfl) rfl ?_
      refine fv_iinc (L' := [some (.inr (.inr 309)), some (.inl x1), some (.inl x2), some (.inl (ft_add x3 1))]) (ft_d o_Mo_logs 39 rfl) rfl rfl (Nat.le_of_ble_eq_true rfl) rfl ?_
      refine fv_goto (pc' := 2) (ft_d o_Mo_logs 40 rfl) rfl ?_
      exact w
set_option maxRecDepth 20000 in
theorem b_Mo_packet_0 {x1 : Int} {x2 : Int} {h : ftH} {R : Option ftV → ftH → Prop} 
    (w : (((1 : Int) ≤ x2 ∧ x2 ≤ (9999 : Int) → (∃ R3 : Option ftV → ftH → Prop, ft_C k_Mo_keepsPast [.inr (.inr 309)] h R3 ∧ ∀ h1 : ftH, R3 none h1 → (∃ R5 : Option ftV → ftH → Prop, ft_C k_Mo_logs [.inr (.inr 309), .inl x1, .inl x2] h1 R5 ∧ ∀ h2 : ftH, R5 none h2 → (∃ R7 : Option ftV → ftH → Prop, ft_C k_Mo_isHard [.inr (.inr 309), .inl x1] h2 R7 ∧ ∀ (z9 : Int) (h3 : ftH), ft_in z9 → R7 (some (.inl z9)) h3 → ((z9 = 0 → (∀ h4 : ftH, h4 = ft_hs h3 310 5 (ft_add (h3 310 5) x2) → ((z9 = 0 → R (some (.inl 0)) h4) ∧ (¬ (z9 = 0) → R (some (.inl 1)) h4)))) ∧ (¬ (z9 = 0) → (∀ h5 : ftH, h5 = ft_hs h3 310 4 (ft_add (h3 310 4) x2) → ((z9 = 0 → R (some (.inl 0)) h5) ∧ (¬ (z9 = 0) → R (some (.inl 1)) h5))))))))) ∧ (¬ ((1 : Int) ≤ x2 ∧ x2 ≤ (9999 : Int)) → R (some (.inl ((-1)))) h))) : ft_V k_Mo_packet 0 [some (.inr (.inr 309)), some (.inl x1), some (.inl x2), none] [] h R := by
  refine fv_iload_n (ft_d o_Mo_packet 0 rfl) rfl rfl ?_
  refine fv_i2l (ft_d o_Mo_packet 1 rfl) rfl ?_
  refine fv_lconst (z := 1) (ft_d o_Mo_packet 2 rfl) rfl rfl ?_
  refine fv_ldc2 (v := 9999) (z := 9999) (ft_d o_Mo_packet 3 rfl) rfl (ft_gt 1326 (by decide +kernel) rfl) rfl ?_
  refine fv_callif (st := []) (z := (if (1 : Int) ≤ x2 ∧ x2 ≤ (9999 : Int) then 1 else 0)) (Or.inr rfl) rfl (ft_mm (pre := [.inr (.inl 9999), .inr (.inl 1), .inr (.inl x2)]) rfl) (ft_rnS (K' := k_Mo_in) (As := [.inr (.inl x2), .inr (.inl 1), .inr (.inl 9999)]) (ft_d o_Mo_packet 4 rfl) ml_Mo_106 lz_Mo_in rfl lw_Mo_in ⟨rfl, rfl, Nat.le_of_ble_eq_true rfl, Nat.le_of_ble_eq_true rfl⟩ rfl rfl (Nat.le_of_ble_eq_true rfl) (c_Mo_in)) ?_
  refine fv_if_ne (tgt := 14) (ft_d o_Mo_packet 5 rfl) rfl rfl (fun c => ?_) (fun c => ?_)
  · have w := w.1 (ft_if1.mp c)
    refine fv_aload_n (ft_d o_Mo_packet 8 rfl) rfl rfl ?_
    obtain ⟨R3, c4, w⟩ := w
    refine fv_callv (st := []) rfl rfl (ft_mm (pre := [.inr (.inr 309)]) rfl) (ft_rnV (K' := k_Mo_keepsPast) (As := []) (ft_d o_Mo_packet 9 rfl) ml_Mo_196 li_Mo_keepsPast.1 li_Mo_keepsPast.2 lw_Mo_keepsPast ⟨rfl, rfl, Nat.le_of_ble_eq_true rfl, Nat.le_of_ble_eq_true rfl⟩ sh_309 rfl rfl rfl rfl (Nat.le_of_ble_eq_true rfl) c4) (fun h1 hw => ?_)
    have w := w h1 hw
    refine fv_aload_n (ft_d o_Mo_packet 10 rfl) rfl rfl ?_
    refine fv_iload_n (ft_d o_Mo_packet 11 rfl) rfl rfl ?_
    refine fv_iload_n (ft_d o_Mo_packet 12 rfl) rfl rfl ?_
    obtain ⟨R5, c6, w⟩ := w
    refine fv_callv (st := []) rfl rfl (ft_mm (pre := [.inl x2, .inl x1, .inr (.inr 309)]) rfl) (ft_rnV (K' := k_Mo_logs) (As := [.inl x1, .inl x2]) (ft_d o_Mo_packet 13 rfl) ml_Mo_221 li_Mo_logs.1 li_Mo_logs.2 lw_Mo_logs ⟨rfl, rfl, Nat.le_of_ble_eq_true rfl, Nat.le_of_ble_eq_true rfl⟩ sh_309 rfl rfl rfl rfl (Nat.le_of_ble_eq_true rfl) c6) (fun h2 hw => ?_)
    have w := w h2 hw
    refine fv_aload_n (ft_d o_Mo_packet 14 rfl) rfl rfl ?_
    refine fv_iload_n (ft_d o_Mo_packet 15 rfl) rfl rfl ?_
    obtain ⟨R7, c8, w⟩ := w
    refine fv_calli (st := []) (Or.inr rfl) rfl (ft_mm (pre := [.inl x1, .inr (.inr 309)]) rfl) (ft_rnV (K' := k_Mo_isHard) (As := [.inl x1]) (ft_d o_Mo_packet 16 rfl) ml_Mo_224 li_Mo_isHard.1 li_Mo_isHard.2 lw_Mo_isHard ⟨rfl, rfl, Nat.le_of_ble_eq_true rfl, Nat.le_of_ble_eq_true rfl⟩ sh_309 rfl rfl rfl rfl (Nat.le_of_ble_eq_true rfl) c8) (fun z9 h3 hz hw => ?_)
    have w := w z9 h3 hz hw
    refine fv_istore_n (L' := [some (.inr (.inr 309)), some (.inl x1), some (.inl x2), some (.inl z9)]) (ft_d o_Mo_packet 17 rfl) rfl (Nat.le_of_ble_eq_true rfl) rfl ?_
    refine fv_aload_n (ft_d o_Mo_packet 18 rfl) rfl rfl ?_
    refine fv_getR (b := 310) (ft_d o_Mo_packet 19 rfl) rfl fl_Mo_13 sh_309 rfl ly_309_1 ?_
    refine fv_iload_n (ft_d o_Mo_packet 20 rfl) rfl rfl ?_
    refine fv_if_eq (tgt := 42) (ft_d o_Mo_packet 21 rfl) rfl rfl (fun c => ?_) (fun c => ?_)
    · have w := w.1 c
      refine fv_iconst (ft_d o_Mo_packet 24 rfl) rfl rfl ?_
      refine fv_dup2 (ft_d o_Mo_packet 25 rfl) rfl rfl rfl ?_
      refine fv_ialdj (j := 5) (ft_d o_Mo_packet 26 rfl) rfl sh_310 ⟨by decide, by decide⟩ rfl ?_
      refine fv_iload_n (ft_d o_Mo_packet 27 rfl) rfl rfl ?_
      refine fv_iadd (ft_d o_Mo_packet 28 rfl) rfl ?_
      refine fv_iastj (j := 5) (ft_d o_Mo_packet 29 rfl) rfl sh_310 ⟨by decide, by decide⟩ rfl ?_
      generalize eh4 : ft_hs h3 310 5 (ft_add (h3 310 5) x2) = h4
      have w := w h4 eh4.symm
      refine fv_iload_n (ft_d o_Mo_packet 30 rfl) rfl rfl ?_
      refine fv_if_eq (tgt := 56) (ft_d o_Mo_packet 31 rfl) rfl rfl (fun c => ?_) (fun c => ?_)
      · have w := w.1 c
        refine fv_iconst (ft_d o_Mo_packet 34 rfl) rfl rfl ?_
        exact fv_ireturn (ft_d o_Mo_packet 35 rfl) rfl w
      · have w := w.2 c
        refine fv_iconst (ft_d o_Mo_packet 32 rfl) rfl rfl ?_
        refine fv_goto (pc' := 57) (ft_d o_Mo_packet 33 rfl) rfl ?_
        exact fv_ireturn (ft_d o_Mo_packet 35 rfl) rfl w
    · have w := w.2 c
      refine fv_iconst (ft_d o_Mo_packet 22 rfl) rfl rfl ?_
      refine fv_goto (pc' := 43) (ft_d o_Mo_packet 23 rfl) rfl ?_
      refine fv_dup2 (ft_d o_Mo_packet 25 rfl) rfl rfl rfl ?_
      refine fv_ialdj (j := 4) (ft_d o_Mo_packet 26 rfl) rfl sh_310 ⟨by decide, by decide⟩ rfl ?_
      refine fv_iload_n (ft_d o_Mo_packet 27 rfl) rfl rfl ?_
      refine fv_iadd (ft_d o_Mo_packet 28 rfl) rfl ?_
      refine fv_iastj (j := 4) (ft_d o_Mo_packet 29 rfl) rfl sh_310 ⟨by decide, by decide⟩ rfl ?_
      generalize eh5 : ft_hs h3 310 4 (ft_add (h3 310 4) x2) = h5
      have w := w h5 eh5.symm
      refine fv_iload_n (ft_d o_Mo_packet 30 rfl) rfl rfl ?_
      refine fv_if_eq (tgt := 56) (ft_d o_Mo_packet 31 rfl) rfl rfl (fun c => ?_) (fun c => ?_)
      · have w := w.1 c
        refine fv_iconst (ft_d o_Mo_packet 34 rfl) rfl rfl ?_
        exact fv_ireturn (ft_d o_Mo_packet 35 rfl) rfl w
      · have w := w.2 c
        refine fv_iconst (ft_d o_Mo_packet 32 rfl) rfl rfl ?_
        refine fv_goto (pc' := 57) (ft_d o_Mo_packet 33 rfl) rfl ?_
        exact fv_ireturn (ft_d o_Mo_packet 35 rfl) rfl w
  · have w := w.2 (ft_if0.mp c)
    refine fv_iconst (ft_d o_Mo_packet 6 rfl) rfl rfl ?_
    exact fv_ireturn (ft_d o_Mo_packet 7 rfl) rfl w
set_option maxRecDepth 20000 in
theorem b_Mo_age_0  {h : ftH} {R : Option ftV → ftH → Prop} 
    (w : ((¬ (h 310 1 = 0) → (∃ R1 : Option ftV → ftH → Prop, ft_C k_Mo_keepsPast [.inr (.inr 309)] h R1 ∧ ∀ h1 : ftH, R1 none h1 → (∀ n3 : Int, n3 = h1 310 1 → (∀ n4 : Int, n4 = ft_sub n3 1 → ft_V k_Mo_age 27 [some (.inr (.inr 309)), some (.inl n3), some (.inl n4)] [] h1 R)))) ∧ (h 310 1 = 0 → R (some (.inl ((-2)))) h))) : ft_V k_Mo_age 0 [some (.inr (.inr 309)), none, none] [] h R := by
  refine fv_aload_n (ft_d o_Mo_age 0 rfl) rfl rfl ?_
  refine fv_getR (b := 310) (ft_d o_Mo_age 1 rfl) rfl fl_Mo_13 sh_309 rfl ly_309_1 ?_
  refine fv_iconst (ft_d o_Mo_age 2 rfl) rfl rfl ?_
  refine fv_ialdj (j := 1) (ft_d o_Mo_age 3 rfl) rfl sh_310 ⟨by decide, by decide⟩ rfl ?_
  refine fv_if_ne (tgt := 12) (ft_d o_Mo_age 4 rfl) rfl rfl (fun c => ?_) (fun c => ?_)
  · have w := w.1 c
    refine fv_aload_n (ft_d o_Mo_age 7 rfl) rfl rfl ?_
    obtain ⟨R1, c2, w⟩ := w
    refine fv_callv (st := []) rfl rfl (ft_mm (pre := [.inr (.inr 309)]) rfl) (ft_rnV (K' := k_Mo_keepsPast) (As := []) (ft_d o_Mo_age 8 rfl) ml_Mo_196 li_Mo_keepsPast.1 li_Mo_keepsPast.2 lw_Mo_keepsPast ⟨rfl, rfl, Nat.le_of_ble_eq_true rfl, Nat.le_of_ble_eq_true rfl⟩ sh_309 rfl rfl rfl rfl (Nat.le_of_ble_eq_true rfl) c2) (fun h1 hw => ?_)
    have w := w h1 hw
    refine fv_aload_n (ft_d o_Mo_age 9 rfl) rfl rfl ?_
    refine fv_getR (b := 310) (ft_d o_Mo_age 10 rfl) rfl fl_Mo_13 sh_309 rfl ly_309_1 ?_
    refine fv_iconst (ft_d o_Mo_age 11 rfl) rfl rfl ?_
    refine fv_ialdj (j := 1) (ft_d o_Mo_age 12 rfl) rfl sh_310 ⟨by decide, by decide⟩ rfl ?_
    generalize en3 : h1 310 1 = n3
    have w := w n3 en3.symm
    refine fv_istore_n (L' := [some (.inr (.inr 309)), some (.inl n3), none]) (ft_d o_Mo_age 13 rfl) rfl (Nat.le_of_ble_eq_true rfl) rfl ?_
    refine fv_iload_n (ft_d o_Mo_age 14 rfl) rfl rfl ?_
    refine fv_iconst (ft_d o_Mo_age 15 rfl) rfl rfl ?_
    refine fv_isub (ft_d o_Mo_age 16 rfl) rfl ?_
    generalize en4 : ft_sub n3 1 = n4
    have w := w n4 en4.symm
    refine fv_istore_n (L' := [some (.inr (.inr 309)), some (.inl n3), some (.inl n4)]) (ft_d o_Mo_age 17 rfl) rfl (Nat.le_of_ble_eq_true rfl) rfl ?_
    exact w
  · have w := w.2 c
    refine fv_bipush (ft_d o_Mo_age 5 rfl) rfl rfl ?_
    exact fv_ireturn (ft_d o_Mo_age 6 rfl) rfl w
set_option maxRecDepth 20000 in
theorem b_Mo_age_27 {x1 : Int} {x2 : Int} {h : ftH} {R : Option ftV → ftH → Prop} 
    (w : ((x2 < 0 → R (some (.inl (ft_sub x1 (h 310 1)))) h) ∧ (¬ (x2 < 0) → ((0 ≤ x2 ∧ x2 < 40) ∧ ((0 ≤ ft_add (ft_add 190 (ft_mul 2 x2)) 1 ∧ ft_add (ft_add 190 (ft_mul 2 x2)) 1 < 520) ∧ (∀ h1 : ftH, h1 = ft_hs h 310 (ft_add (ft_add 190 (ft_mul 2 x2)) 1).toNat (ft_div (h 310 (191 + 2 * x2.toNat)) 2) → ((0 ≤ x2 ∧ x2 < 40) ∧ ((¬ (h1 310 (191 + 2 * x2.toNat) = 0) → ft_V k_Mo_age 27 [some (.inr (.inr 309)), some (.inl x1), some (.inl (ft_add x2 (-1)))] [] h1 R) ∧ (h1 310 (191 + 2 * x2.toNat) = 0 → (∃ R5 : Option ftV → ftH → Prop, ft_C k_Mo_dropsSeen [.inr (.inr 309), .inl x2] h1 R5 ∧ ∀ h2 : ftH, R5 none h2 → ft_V k_Mo_age 27 [some (.inr (.inr 309)), some (.inl x1), some (.inl (ft_add x2 (-1)))] [] h2 R)))))))))) : ft_V k_Mo_age 27 [some (.inr (.inr 309)), some (.inl x1), some (.inl x2)] [] h R := by
  refine fv_iload_n (ft_d o_Mo_age 18 rfl) rfl rfl ?_
  refine fv_if_lt (tgt := 71) (ft_d o_Mo_age 19 rfl) rfl rfl (fun c => ?_) (fun c => ?_)
  · have w := w.1 c
    refine fv_iload_n (ft_d o_Mo_age 44 rfl) rfl rfl ?_
    refine fv_aload_n (ft_d o_Mo_age 45 rfl) rfl rfl ?_
    refine fv_getR (b := 310) (ft_d o_Mo_age 46 rfl) rfl fl_Mo_13 sh_309 rfl ly_309_1 ?_
    refine fv_iconst (ft_d o_Mo_age 47 rfl) rfl rfl ?_
    refine fv_ialdj (j := 1) (ft_d o_Mo_age 48 rfl) rfl sh_310 ⟨by decide, by decide⟩ rfl ?_
    refine fv_isub (ft_d o_Mo_age 49 rfl) rfl ?_
    exact fv_ireturn (ft_d o_Mo_age 50 rfl) rfl w
  · have w := w.2 c
    refine fv_aload_n (ft_d o_Mo_age 20 rfl) rfl rfl ?_
    refine fv_getR (b := 310) (ft_d o_Mo_age 21 rfl) rfl fl_Mo_13 sh_309 rfl ly_309_1 ?_
    refine fv_sipush (ft_d o_Mo_age 22 rfl) rfl rfl ?_
    refine fv_iconst (ft_d o_Mo_age 23 rfl) rfl rfl ?_
    refine fv_iload_n (ft_d o_Mo_age 24 rfl) rfl rfl ?_
    refine fv_imul (ft_d o_Mo_age 25 rfl) rfl ?_
    refine fv_iadd (ft_d o_Mo_age 26 rfl) rfl ?_
    refine fv_iconst (ft_d o_Mo_age 27 rfl) rfl rfl ?_
    refine fv_iadd (ft_d o_Mo_age 28 rfl) rfl ?_
    refine fv_aload_n (ft_d o_Mo_age 29 rfl) rfl rfl ?_
    refine fv_iload_n (ft_d o_Mo_age 30 rfl) rfl rfl ?_
    refine fv_callif (st := [.inl (ft_add (ft_add 190 (ft_mul 2 x2)) 1), .inr (.inr 310)]) (z := h 310 (191 + 2 * x2.toNat)) (Or.inl rfl) rfl (ft_mm (pre := [.inl x2, .inr (.inr 309)]) rfl) (ft_rnV (K' := k_Mo_timesAt) (As := [.inl x2]) (ft_d o_Mo_age 31 rfl) ml_Mo_205 li_Mo_timesAt.1 li_Mo_timesAt.2 lw_Mo_timesAt ⟨rfl, rfl, Nat.le_of_ble_eq_true rfl, Nat.le_of_ble_eq_true rfl⟩ sh_309 rfl rfl rfl rfl (Nat.le_of_ble_eq_true rfl) (c_Mo_timesAt w.1)) ?_
    have w := w.2
    refine fv_iconst (ft_d o_Mo_age 32 rfl) rfl rfl ?_
    refine fv_idiv (ft_d o_Mo_age 33 rfl) rfl (by decide) ?_
    refine fv_iast (ft_d o_Mo_age 34 rfl) rfl sh_310 w.1 ?_
    have w := w.2
    generalize eh1 : ft_hs h 310 (ft_add (ft_add 190 (ft_mul 2 x2)) 1).toNat (ft_div (h 310 (191 + 2 * x2.toNat)) 2) = h1
    have w := w h1 eh1.symm
    refine fv_aload_n (ft_d o_Mo_age 35 rfl) rfl rfl ?_
    refine fv_iload_n (ft_d o_Mo_age 36 rfl) rfl rfl ?_
    refine fv_callif (st := []) (z := h1 310 (191 + 2 * x2.toNat)) (Or.inl rfl) rfl (ft_mm (pre := [.inl x2, .inr (.inr 309)]) rfl) (ft_rnV (K' := k_Mo_timesAt) (As := [.inl x2]) (ft_d o_Mo_age 37 rfl) ml_Mo_205 li_Mo_timesAt.1 li_Mo_timesAt.2 lw_Mo_timesAt ⟨rfl, rfl, Nat.le_of_ble_eq_true rfl, Nat.le_of_ble_eq_true rfl⟩ sh_309 rfl rfl rfl rfl (Nat.le_of_ble_eq_true rfl) (c_Mo_timesAt w.1)) ?_
    have w := w.2
    refine fv_if_ne (tgt := 65) (ft_d o_Mo_age 38 rfl) rfl rfl (fun c => ?_) (fun c => ?_)
    · have w := w.1 c
      refine fv_iinc (L' := [some (.inr (.inr 309)), some (.inl x1), some (.inl (ft_add x2 (-1)))]) (ft_d o_Mo_age 42 rfl) rfl rfl (Nat.le_of_ble_eq_true rfl) rfl ?_
      refine fv_goto (pc' := 27) (ft_d o_Mo_age 43 rfl) rfl ?_
      exact w
    · have w := w.2 c
      refine fv_aload_n (ft_d o_Mo_age 39 rfl) rfl rfl ?_
      refine fv_iload_n (ft_d o_Mo_age 40 rfl) rfl rfl ?_
      obtain ⟨R5, c6, w⟩ := w
      refine fv_callv (st := []) rfl rfl (ft_mm (pre := [.inl x2, .inr (.inr 309)]) rfl) (ft_rnV (K' := k_Mo_dropsSeen) (As := [.inl x2]) (ft_d o_Mo_age 41 rfl) ml_Mo_216 li_Mo_dropsSeen.1 li_Mo_dropsSeen.2 lw_Mo_dropsSeen ⟨rfl, rfl, Nat.le_of_ble_eq_true rfl, Nat.le_of_ble_eq_true rfl⟩ sh_309 rfl rfl rfl rfl (Nat.le_of_ble_eq_true rfl) c6) (fun h2 hw => ?_)
      have w := w h2 hw
      refine fv_iinc (L' := [some (.inr (.inr 309)), some (.inl x1), some (.inl (ft_add x2 (-1)))]) (ft_d o_Mo_age 42 rfl) rfl rfl (Nat.le_of_ble_eq_true rfl) rfl ?_
      refine fv_goto (pc' := 27) (ft_d o_Mo_age 43 rfl) rfl ?_
      exact w
set_option maxRecDepth 20000 in
theorem b_Mo_logged_0  {h : ftH} {R : Option ftV → ftH → Prop} 
    (w : R (some (.inl (h 310 1))) h) : ft_V k_Mo_logged 0 [some (.inr (.inr 309))] [] h R := by
  refine fv_aload_n (ft_d o_Mo_logged 0 rfl) rfl rfl ?_
  refine fv_getR (b := 310) (ft_d o_Mo_logged 1 rfl) rfl fl_Mo_13 sh_309 rfl ly_309_1 ?_
  refine fv_iconst (ft_d o_Mo_logged 2 rfl) rfl rfl ?_
  refine fv_ialdj (j := 1) (ft_d o_Mo_logged 3 rfl) rfl sh_310 ⟨by decide, by decide⟩ rfl ?_
  exact fv_ireturn (ft_d o_Mo_logged 4 rfl) rfl w
set_option maxRecDepth 20000 in
theorem b_Mo_log_0 {x1 : Int} {x2 : Int} {h : ftH} {R : Option ftV → ftH → Prop} 
    (w : ((x1 < 0 → R (some (.inr (.inl ((-1))))) h) ∧ (¬ (x1 < 0) → (((0 : Int) ≤ x2 ∧ x2 ≤ (1 : Int) → ((x1 < h 310 1 → ((¬ (x2 = 0) → ((0 ≤ x1 ∧ x1 < 40) ∧ R (some (.inr (.inl (h 310 (191 + 2 * x1.toNat))))) h)) ∧ (x2 = 0 → ((0 ≤ x1 ∧ x1 < 40) ∧ R (some (.inr (.inl (pUn (h 310 (190 + 2 * x1.toNat)))))) h)))) ∧ (¬ (x1 < h 310 1) → R (some (.inr (.inl ((-2))))) h))) ∧ (¬ ((0 : Int) ≤ x2 ∧ x2 ≤ (1 : Int)) → R (some (.inr (.inl ((-1))))) h))))) : ft_V k_Mo_log 0 [some (.inr (.inr 309)), some (.inl x1), some (.inl x2)] [] h R := by
  refine fv_iload_n (ft_d o_Mo_log 0 rfl) rfl rfl ?_
  refine fv_if_lt (tgt := 14) (ft_d o_Mo_log 1 rfl) rfl rfl (fun c => ?_) (fun c => ?_)
  · have w := w.1 c
    refine fv_ldc2 (v := (-1)) (z := (-1)) (ft_d o_Mo_log 8 rfl) rfl (ft_gt 1202 (by decide +kernel) rfl) rfl ?_
    exact fv_lreturn (ft_d o_Mo_log 9 rfl) rfl w
  · have w := w.2 c
    refine fv_iload_n (ft_d o_Mo_log 2 rfl) rfl rfl ?_
    refine fv_i2l (ft_d o_Mo_log 3 rfl) rfl ?_
    refine fv_lconst (z := 0) (ft_d o_Mo_log 4 rfl) rfl rfl ?_
    refine fv_lconst (z := 1) (ft_d o_Mo_log 5 rfl) rfl rfl ?_
    refine fv_callif (st := []) (z := (if (0 : Int) ≤ x2 ∧ x2 ≤ (1 : Int) then 1 else 0)) (Or.inr rfl) rfl (ft_mm (pre := [.inr (.inl 1), .inr (.inl 0), .inr (.inl x2)]) rfl) (ft_rnS (K' := k_Mo_in) (As := [.inr (.inl x2), .inr (.inl 0), .inr (.inl 1)]) (ft_d o_Mo_log 6 rfl) ml_Mo_106 lz_Mo_in rfl lw_Mo_in ⟨rfl, rfl, Nat.le_of_ble_eq_true rfl, Nat.le_of_ble_eq_true rfl⟩ rfl rfl (Nat.le_of_ble_eq_true rfl) (c_Mo_in)) ?_
    refine fv_if_ne (tgt := 18) (ft_d o_Mo_log 7 rfl) rfl rfl (fun c => ?_) (fun c => ?_)
    · have w := w.1 (ft_if1.mp c)
      refine fv_iload_n (ft_d o_Mo_log 10 rfl) rfl rfl ?_
      refine fv_aload_n (ft_d o_Mo_log 11 rfl) rfl rfl ?_
      refine fv_getR (b := 310) (ft_d o_Mo_log 12 rfl) rfl fl_Mo_13 sh_309 rfl ly_309_1 ?_
      refine fv_iconst (ft_d o_Mo_log 13 rfl) rfl rfl ?_
      refine fv_ialdj (j := 1) (ft_d o_Mo_log 14 rfl) rfl sh_310 ⟨by decide, by decide⟩ rfl ?_
      refine fv_icmp_lt (tgt := 32) (ft_d o_Mo_log 15 rfl) rfl rfl (fun c => ?_) (fun c => ?_)
      · have w := w.1 c
        refine fv_iload_n (ft_d o_Mo_log 18 rfl) rfl rfl ?_
        refine fv_if_ne (tgt := 47) (ft_d o_Mo_log 19 rfl) rfl rfl (fun c => ?_) (fun c => ?_)
        · have w := w.1 c
          refine fv_aload_n (ft_d o_Mo_log 25 rfl) rfl rfl ?_
          refine fv_iload_n (ft_d o_Mo_log 26 rfl) rfl rfl ?_
          refine fv_callif (st := []) (z := h 310 (191 + 2 * x1.toNat)) (Or.inl rfl) rfl (ft_mm (pre := [.inl x1, .inr (.inr 309)]) rfl) (ft_rnV (K' := k_Mo_timesAt) (As := [.inl x1]) (ft_d o_Mo_log 27 rfl) ml_Mo_205 li_Mo_timesAt.1 li_Mo_timesAt.2 lw_Mo_timesAt ⟨rfl, rfl, Nat.le_of_ble_eq_true rfl, Nat.le_of_ble_eq_true rfl⟩ sh_309 rfl rfl rfl rfl (Nat.le_of_ble_eq_true rfl) (c_Mo_timesAt w.1)) ?_
          have w := w.2
          refine fv_i2l (ft_d o_Mo_log 28 rfl) rfl ?_
          exact fv_lreturn (ft_d o_Mo_log 29 rfl) rfl w
        · have w := w.2 c
          refine fv_aload_n (ft_d o_Mo_log 20 rfl) rfl rfl ?_
          refine fv_iload_n (ft_d o_Mo_log 21 rfl) rfl rfl ?_
          refine fv_callif (st := []) (z := h 310 (190 + 2 * x1.toNat)) (Or.inl rfl) rfl (ft_mm (pre := [.inl x1, .inr (.inr 309)]) rfl) (ft_rnV (K' := k_Mo_seenAt) (As := [.inl x1]) (ft_d o_Mo_log 22 rfl) ml_Mo_208 li_Mo_seenAt.1 li_Mo_seenAt.2 lw_Mo_seenAt ⟨rfl, rfl, Nat.le_of_ble_eq_true rfl, Nat.le_of_ble_eq_true rfl⟩ sh_309 rfl rfl rfl rfl (Nat.le_of_ble_eq_true rfl) (c_Mo_seenAt w.1)) ?_
          have w := w.2
          refine fv_calllf (st := []) (z := pUn (h 310 (190 + 2 * x1.toNat))) rfl rfl (ft_mm (pre := [.inl (h 310 (190 + 2 * x1.toNat))]) rfl) (ft_rnS (K' := k_Mo_unsigned) (As := [.inl (h 310 (190 + 2 * x1.toNat))]) (ft_d o_Mo_log 23 rfl) ml_Mo_100 lz_Mo_unsigned rfl lw_Mo_unsigned ⟨rfl, rfl, Nat.le_of_ble_eq_true rfl, Nat.le_of_ble_eq_true rfl⟩ rfl rfl (Nat.le_of_ble_eq_true rfl) (c_Mo_unsigned)) ?_
          refine fv_goto (pc' := 53) (ft_d o_Mo_log 24 rfl) rfl ?_
          exact fv_lreturn (ft_d o_Mo_log 29 rfl) rfl w
      · have w := w.2 c
        refine fv_ldc2 (v := (-2)) (z := (-2)) (ft_d o_Mo_log 16 rfl) rfl (ft_gt 1207 (by decide +kernel) rfl) rfl ?_
        exact fv_lreturn (ft_d o_Mo_log 17 rfl) rfl w
    · have w := w.2 (ft_if0.mp c)
      refine fv_ldc2 (v := (-1)) (z := (-1)) (ft_d o_Mo_log 8 rfl) rfl (ft_gt 1202 (by decide +kernel) rfl) rfl ?_
      exact fv_lreturn (ft_d o_Mo_log 9 rfl) rfl w
set_option maxRecDepth 20000 in
theorem b_Mo_hopHits_0 {x1 : Int} {h : ftH} {R : Option ftV → ftH → Prop} 
    (w : (((0 : Int) ≤ x1 ∧ x1 ≤ (15 : Int) → ft_V k_Mo_hopHits 18 [some (.inr (.inr 309)), some (.inl x1), some (.inl 0), some (.inl 0)] [] h R) ∧ (¬ ((0 : Int) ≤ x1 ∧ x1 ≤ (15 : Int)) → R (some (.inl ((-1)))) h))) : ft_V k_Mo_hopHits 0 [some (.inr (.inr 309)), some (.inl x1), none, none] [] h R := by
  refine fv_iload_n (ft_d o_Mo_hopHits 0 rfl) rfl rfl ?_
  refine fv_i2l (ft_d o_Mo_hopHits 1 rfl) rfl ?_
  refine fv_lconst (z := 0) (ft_d o_Mo_hopHits 2 rfl) rfl rfl ?_
  refine fv_ldc2 (v := 15) (z := 15) (ft_d o_Mo_hopHits 3 rfl) rfl (ft_gt 1269 (by decide +kernel) rfl) rfl ?_
  refine fv_callif (st := []) (z := (if (0 : Int) ≤ x1 ∧ x1 ≤ (15 : Int) then 1 else 0)) (Or.inr rfl) rfl (ft_mm (pre := [.inr (.inl 15), .inr (.inl 0), .inr (.inl x1)]) rfl) (ft_rnS (K' := k_Mo_in) (As := [.inr (.inl x1), .inr (.inl 0), .inr (.inl 15)]) (ft_d o_Mo_hopHits 4 rfl) ml_Mo_106 lz_Mo_in rfl lw_Mo_in ⟨rfl, rfl, Nat.le_of_ble_eq_true rfl, Nat.le_of_ble_eq_true rfl⟩ rfl rfl (Nat.le_of_ble_eq_true rfl) (c_Mo_in)) ?_
  refine fv_if_ne (tgt := 14) (ft_d o_Mo_hopHits 5 rfl) rfl rfl (fun c => ?_) (fun c => ?_)
  · have w := w.1 (ft_if1.mp c)
    refine fv_iconst (ft_d o_Mo_hopHits 8 rfl) rfl rfl ?_
    refine fv_istore_n (L' := [some (.inr (.inr 309)), some (.inl x1), some (.inl 0), none]) (ft_d o_Mo_hopHits 9 rfl) rfl (Nat.le_of_ble_eq_true rfl) rfl ?_
    refine fv_iconst (ft_d o_Mo_hopHits 10 rfl) rfl rfl ?_
    refine fv_istore_n (L' := [some (.inr (.inr 309)), some (.inl x1), some (.inl 0), some (.inl 0)]) (ft_d o_Mo_hopHits 11 rfl) rfl (Nat.le_of_ble_eq_true rfl) rfl ?_
    exact w
  · have w := w.2 (ft_if0.mp c)
    refine fv_iconst (ft_d o_Mo_hopHits 6 rfl) rfl rfl ?_
    exact fv_ireturn (ft_d o_Mo_hopHits 7 rfl) rfl w
set_option maxRecDepth 20000 in
theorem b_Mo_hopHits_18 {x1 : Int} {x2 : Int} {x3 : Int} {h : ftH} {R : Option ftV → ftH → Prop} 
    (w : ((h 310 1 ≤ x3 → R (some (.inl x2)) h) ∧ (¬ (h 310 1 ≤ x3) → ((0 ≤ x3 ∧ x3 < 40) ∧ (∃ R3 : Option ftV → ftH → Prop, ft_C k_Mo_answers [.inr (.inr 309), .inl (h 310 (190 + 2 * x3.toNat))] h R3 ∧ ∀ (z5 : Int) (h1 : ftH), ft_in z5 → R3 (some (.inl z5)) h1 → ((¬ (z5 = x1) → ft_V k_Mo_hopHits 18 [some (.inr (.inr 309)), some (.inl x1), some (.inl x2), some (.inl (ft_add x3 1))] [] h1 R) ∧ (z5 = x1 → ((0 ≤ x3 ∧ x3 < 40) ∧ (∀ n8 : Int, n8 = ft_add x2 (h1 310 (191 + 2 * x3.toNat)) → ft_V k_Mo_hopHits 18 [some (.inr (.inr 309)), some (.inl x1), some (.inl n8), some (.inl (ft_add x3 1))] [] h1 R))))))))) : ft_V k_Mo_hopHits 18 [some (.inr (.inr 309)), some (.inl x1), some (.inl x2), some (.inl x3)] [] h R := by
  refine fv_iload_n (ft_d o_Mo_hopHits 12 rfl) rfl rfl ?_
  refine fv_aload_n (ft_d o_Mo_hopHits 13 rfl) rfl rfl ?_
  refine fv_getR (b := 310) (ft_d o_Mo_hopHits 14 rfl) rfl fl_Mo_13 sh_309 rfl ly_309_1 ?_
  refine fv_iconst (ft_d o_Mo_hopHits 15 rfl) rfl rfl ?_
  refine fv_ialdj (j := 1) (ft_d o_Mo_hopHits 16 rfl) rfl sh_310 ⟨by decide, by decide⟩ rfl ?_
  refine fv_icmp_ge (tgt := 55) (ft_d o_Mo_hopHits 17 rfl) rfl rfl (fun c => ?_) (fun c => ?_)
  · have w := w.1 c
    refine fv_iload_n (ft_d o_Mo_hopHits 33 rfl) rfl rfl ?_
    exact fv_ireturn (ft_d o_Mo_hopHits 34 rfl) rfl w
  · have w := w.2 c
    refine fv_aload_n (ft_d o_Mo_hopHits 18 rfl) rfl rfl ?_
    refine fv_aload_n (ft_d o_Mo_hopHits 19 rfl) rfl rfl ?_
    refine fv_iload_n (ft_d o_Mo_hopHits 20 rfl) rfl rfl ?_
    refine fv_callif (st := [.inr (.inr 309)]) (z := h 310 (190 + 2 * x3.toNat)) (Or.inl rfl) rfl (ft_mm (pre := [.inl x3, .inr (.inr 309)]) rfl) (ft_rnV (K' := k_Mo_seenAt) (As := [.inl x3]) (ft_d o_Mo_hopHits 21 rfl) ml_Mo_208 li_Mo_seenAt.1 li_Mo_seenAt.2 lw_Mo_seenAt ⟨rfl, rfl, Nat.le_of_ble_eq_true rfl, Nat.le_of_ble_eq_true rfl⟩ sh_309 rfl rfl rfl rfl (Nat.le_of_ble_eq_true rfl) (c_Mo_seenAt w.1)) ?_
    have w := w.2
    obtain ⟨R3, c4, w⟩ := w
    refine fv_calli (st := []) (Or.inl rfl) rfl (ft_mm (pre := [.inl (h 310 (190 + 2 * x3.toNat)), .inr (.inr 309)]) rfl) (ft_rnV (K' := k_Mo_answers) (As := [.inl (h 310 (190 + 2 * x3.toNat))]) (ft_d o_Mo_hopHits 22 rfl) ml_Mo_154 li_Mo_answers.1 li_Mo_answers.2 lw_Mo_answers ⟨rfl, rfl, Nat.le_of_ble_eq_true rfl, Nat.le_of_ble_eq_true rfl⟩ sh_309 rfl rfl rfl rfl (Nat.le_of_ble_eq_true rfl) c4) (fun z5 h1 hz hw => ?_)
    have w := w z5 h1 hz hw
    refine fv_iload_n (ft_d o_Mo_hopHits 23 rfl) rfl rfl ?_
    refine fv_icmp_ne (tgt := 49) (ft_d o_Mo_hopHits 24 rfl) rfl rfl (fun c => ?_) (fun c => ?_)
    · have w := w.1 c
      refine fv_iinc (L' := [some (.inr (.inr 309)), some (.inl x1), some (.inl x2), some (.inl (ft_add x3 1))]) (ft_d o_Mo_hopHits 31 rfl) rfl rfl (Nat.le_of_ble_eq_true rfl) rfl ?_
      refine fv_goto (pc' := 18) (ft_d o_Mo_hopHits 32 rfl) rfl ?_
      exact w
    · have w := w.2 c
      refine fv_iload_n (ft_d o_Mo_hopHits 25 rfl) rfl rfl ?_
      refine fv_aload_n (ft_d o_Mo_hopHits 26 rfl) rfl rfl ?_
      refine fv_iload_n (ft_d o_Mo_hopHits 27 rfl) rfl rfl ?_
      refine fv_callif (st := [.inl x2]) (z := h1 310 (191 + 2 * x3.toNat)) (Or.inl rfl) rfl (ft_mm (pre := [.inl x3, .inr (.inr 309)]) rfl) (ft_rnV (K' := k_Mo_timesAt) (As := [.inl x3]) (ft_d o_Mo_hopHits 28 rfl) ml_Mo_205 li_Mo_timesAt.1 li_Mo_timesAt.2 lw_Mo_timesAt ⟨rfl, rfl, Nat.le_of_ble_eq_true rfl, Nat.le_of_ble_eq_true rfl⟩ sh_309 rfl rfl rfl rfl (Nat.le_of_ble_eq_true rfl) (c_Mo_timesAt w.1)) ?_
      have w := w.2
      refine fv_iadd (ft_d o_Mo_hopHits 29 rfl) rfl ?_
      generalize en8 : ft_add x2 (h1 310 (191 + 2 * x3.toNat)) = n8
      have w := w n8 en8.symm
      refine fv_istore_n (L' := [some (.inr (.inr 309)), some (.inl x1), some (.inl n8), some (.inl x3)]) (ft_d o_Mo_hopHits 30 rfl) rfl (Nat.le_of_ble_eq_true rfl) rfl ?_
      refine fv_iinc (L' := [some (.inr (.inr 309)), some (.inl x1), some (.inl n8), some (.inl (ft_add x3 1))]) (ft_d o_Mo_hopHits 31 rfl) rfl rfl (Nat.le_of_ble_eq_true rfl) rfl ?_
      refine fv_goto (pc' := 18) (ft_d o_Mo_hopHits 32 rfl) rfl ?_
      exact w
set_option maxRecDepth 20000 in
theorem b_Mo_addsPart_0 {x1 : Int} {x2 : Int} {h : ftH} {R : Option ftV → ftH → Prop} 
    (w : ((0 ≤ h 309 10 ∧ h 309 10 < 3900) ∧ (∀ h1 : ftH, h1 = ft_hs h 313 (h 309 10).toNat x1 → ((0 ≤ h1 309 10 ∧ h1 309 10 < 3900) ∧ (∀ h2 : ftH, h2 = ft_hs h1 314 (h1 309 10).toNat x2 → ((0 ≤ h2 309 10 ∧ h2 309 10 < 3900) ∧ (∀ h3 : ftH, h3 = ft_hs h2 315 (h2 309 10).toNat 0 → (∀ h4 : ftH, h4 = ft_hs h3 309 10 (ft_add (h3 309 10) 1) → R none h4)))))))) : ft_V k_Mo_addsPart 0 [some (.inr (.inr 309)), some (.inl x1), some (.inl x2)] [] h R := by
  refine fv_aload_n (ft_d o_Mo_addsPart 0 rfl) rfl rfl ?_
  refine fv_getR (b := 313) (ft_d o_Mo_addsPart 1 rfl) rfl fl_Mo_23 sh_309 rfl ly_309_5 ?_
  refine fv_aload_n (ft_d o_Mo_addsPart 2 rfl) rfl rfl ?_
  refine fv_getI (ft_d o_Mo_addsPart 3 rfl) rfl fl_Mo_227 sh_309 rfl ?_
  refine fv_iload_n (ft_d o_Mo_addsPart 4 rfl) rfl rfl ?_
  refine fv_iast (ft_d o_Mo_addsPart 5 rfl) rfl sh_313 w.1 ?_
  have w := w.2
  generalize eh1 : ft_hs h 313 (h 309 10).toNat x1 = h1
  have w := w h1 eh1.symm
  refine fv_aload_n (ft_d o_Mo_addsPart 6 rfl) rfl rfl ?_
  refine fv_getR (b := 314) (ft_d o_Mo_addsPart 7 rfl) rfl fl_Mo_26 sh_309 rfl ly_309_6 ?_
  refine fv_aload_n (ft_d o_Mo_addsPart 8 rfl) rfl rfl ?_
  refine fv_getI (ft_d o_Mo_addsPart 9 rfl) rfl fl_Mo_227 sh_309 rfl ?_
  refine fv_iload_n (ft_d o_Mo_addsPart 10 rfl) rfl rfl ?_
  refine fv_iast (ft_d o_Mo_addsPart 11 rfl) rfl sh_314 w.1 ?_
  have w := w.2
  generalize eh2 : ft_hs h1 314 (h1 309 10).toNat x2 = h2
  have w := w h2 eh2.symm
  refine fv_aload_n (ft_d o_Mo_addsPart 12 rfl) rfl rfl ?_
  refine fv_getR (b := 315) (ft_d o_Mo_addsPart 13 rfl) rfl fl_Mo_29 sh_309 rfl ly_309_7 ?_
  refine fv_aload_n (ft_d o_Mo_addsPart 14 rfl) rfl rfl ?_
  refine fv_getI (ft_d o_Mo_addsPart 15 rfl) rfl fl_Mo_227 sh_309 rfl ?_
  refine fv_iconst (ft_d o_Mo_addsPart 16 rfl) rfl rfl ?_
  refine fv_iast (ft_d o_Mo_addsPart 17 rfl) rfl sh_315 w.1 ?_
  have w := w.2
  generalize eh3 : ft_hs h2 315 (h2 309 10).toNat 0 = h3
  have w := w h3 eh3.symm
  refine fv_aload_n (ft_d o_Mo_addsPart 18 rfl) rfl rfl ?_
  refine fv_dup (ft_d o_Mo_addsPart 19 rfl) rfl rfl ?_
  refine fv_getI (ft_d o_Mo_addsPart 20 rfl) rfl fl_Mo_227 sh_309 rfl ?_
  refine fv_iconst (ft_d o_Mo_addsPart 21 rfl) rfl rfl ?_
  refine fv_iadd (ft_d o_Mo_addsPart 22 rfl) rfl ?_
  refine fv_putI (ft_d o_Mo_addsPart 23 rfl) rfl fl_Mo_227 rfl rfl sh_309 rfl ?_
  generalize eh4 : ft_hs h3 309 10 (ft_add (h3 309 10) 1) = h4
  have w := w h4 eh4.symm
  exact fv_return (ft_d o_Mo_addsPart 24 rfl) rfl w
set_option maxRecDepth 20000 in
theorem b_Mo_hasRoutes_0 {x1 : Int} {x2 : Int} {h : ftH} {R : Option ftV → ftH → Prop} 
    (w : ft_V k_Mo_hasRoutes 2 [some (.inr (.inr 309)), some (.inl x1), some (.inl x2), some (.inl 0)] [] h R) : ft_V k_Mo_hasRoutes 0 [some (.inr (.inr 309)), some (.inl x1), some (.inl x2), none] [] h R := by
  refine fv_iconst (ft_d o_Mo_hasRoutes 0 rfl) rfl rfl ?_
  refine fv_istore_n (L' := [some (.inr (.inr 309)), some (.inl x1), some (.inl x2), some (.inl 0)]) (ft_d o_Mo_hasRoutes 1 rfl) rfl (Nat.le_of_ble_eq_true rfl) rfl ?_
  exact w
set_option maxRecDepth 20000 in
theorem b_Mo_hasRoutes_2 {x1 : Int} {x2 : Int} {x3 : Int} {h : ftH} {R : Option ftV → ftH → Prop} 
    (w : ((h 310 0 ≤ x3 → R (some (.inl 0)) h) ∧ (¬ (h 310 0 ≤ x3) → ((0 ≤ x3 ∧ x3 < 60) ∧ ((h 310 (11 + 3 * x3.toNat) ≤ x2 → ft_V k_Mo_hasRoutes 2 [some (.inr (.inr 309)), some (.inl x1), some (.inl x2), some (.inl (ft_add x3 1))] [] h R) ∧ (¬ (h 310 (11 + 3 * x3.toNat) ≤ x2) → ((0 ≤ x3 ∧ x3 < 60) ∧ ((0 ≤ x2 ∧ x2 ≤ 32) ∧ ((¬ (pUn x1 / pSz x2 = pUn (h 310 (10 + 3 * x3.toNat)) / pSz x2) → ft_V k_Mo_hasRoutes 2 [some (.inr (.inr 309)), some (.inl x1), some (.inl x2), some (.inl (ft_add x3 1))] [] h R) ∧ (pUn x1 / pSz x2 = pUn (h 310 (10 + 3 * x3.toNat)) / pSz x2 → R (some (.inl 1)) h)))))))))) : ft_V k_Mo_hasRoutes 2 [some (.inr (.inr 309)), some (.inl x1), some (.inl x2), some (.inl x3)] [] h R := by
  refine fv_iload_n (ft_d o_Mo_hasRoutes 2 rfl) rfl rfl ?_
  refine fv_aload_n (ft_d o_Mo_hasRoutes 3 rfl) rfl rfl ?_
  refine fv_getR (b := 310) (ft_d o_Mo_hasRoutes 4 rfl) rfl fl_Mo_13 sh_309 rfl ly_309_1 ?_
  refine fv_iconst (ft_d o_Mo_hasRoutes 5 rfl) rfl rfl ?_
  refine fv_ialdj (j := 0) (ft_d o_Mo_hasRoutes 6 rfl) rfl sh_310 ⟨by decide, by decide⟩ rfl ?_
  refine fv_icmp_ge (tgt := 42) (ft_d o_Mo_hasRoutes 7 rfl) rfl rfl (fun c => ?_) (fun c => ?_)
  · have w := w.1 c
    refine fv_iconst (ft_d o_Mo_hasRoutes 24 rfl) rfl rfl ?_
    exact fv_zreturn (ft_d o_Mo_hasRoutes 25 rfl) rfl (Or.inl rfl) w
  · have w := w.2 c
    refine fv_aload_n (ft_d o_Mo_hasRoutes 8 rfl) rfl rfl ?_
    refine fv_iload_n (ft_d o_Mo_hasRoutes 9 rfl) rfl rfl ?_
    refine fv_callif (st := []) (z := h 310 (11 + 3 * x3.toNat)) (Or.inl rfl) rfl (ft_mm (pre := [.inl x3, .inr (.inr 309)]) rfl) (ft_rnV (K' := k_Mo_lengthOf) (As := [.inl x3]) (ft_d o_Mo_hasRoutes 10 rfl) ml_Mo_134 li_Mo_lengthOf.1 li_Mo_lengthOf.2 lw_Mo_lengthOf ⟨rfl, rfl, Nat.le_of_ble_eq_true rfl, Nat.le_of_ble_eq_true rfl⟩ sh_309 rfl rfl rfl rfl (Nat.le_of_ble_eq_true rfl) (c_Mo_lengthOf w.1)) ?_
    have w := w.2
    refine fv_iload_n (ft_d o_Mo_hasRoutes 11 rfl) rfl rfl ?_
    refine fv_icmp_le (tgt := 36) (ft_d o_Mo_hasRoutes 12 rfl) rfl rfl (fun c => ?_) (fun c => ?_)
    · have w := w.1 c
      refine fv_iinc (L' := [some (.inr (.inr 309)), some (.inl x1), some (.inl x2), some (.inl (ft_add x3 1))]) (ft_d o_Mo_hasRoutes 22 rfl) rfl rfl (Nat.le_of_ble_eq_true rfl) rfl ?_
      refine fv_goto (pc' := 2) (ft_d o_Mo_hasRoutes 23 rfl) rfl ?_
      exact w
    · have w := w.2 c
      refine fv_iload_n (ft_d o_Mo_hasRoutes 13 rfl) rfl rfl ?_
      refine fv_iload_n (ft_d o_Mo_hasRoutes 14 rfl) rfl rfl ?_
      refine fv_aload_n (ft_d o_Mo_hasRoutes 15 rfl) rfl rfl ?_
      refine fv_iload_n (ft_d o_Mo_hasRoutes 16 rfl) rfl rfl ?_
      refine fv_callif (st := [.inl x2, .inl x1]) (z := h 310 (10 + 3 * x3.toNat)) (Or.inl rfl) rfl (ft_mm (pre := [.inl x3, .inr (.inr 309)]) rfl) (ft_rnV (K' := k_Mo_valueOf) (As := [.inl x3]) (ft_d o_Mo_hasRoutes 17 rfl) ml_Mo_131 li_Mo_valueOf.1 li_Mo_valueOf.2 lw_Mo_valueOf ⟨rfl, rfl, Nat.le_of_ble_eq_true rfl, Nat.le_of_ble_eq_true rfl⟩ sh_309 rfl rfl rfl rfl (Nat.le_of_ble_eq_true rfl) (c_Mo_valueOf w.1)) ?_
      have w := w.2
      refine fv_callif (st := []) (z := (if pUn x1 / pSz x2 = pUn (h 310 (10 + 3 * x3.toNat)) / pSz x2 then 1 else 0)) (Or.inr rfl) rfl (ft_mm (pre := [.inl (h 310 (10 + 3 * x3.toNat)), .inl x2, .inl x1]) rfl) (ft_rnS (K' := k_Mo_contains) (As := [.inl x1, .inl x2, .inl (h 310 (10 + 3 * x3.toNat))]) (ft_d o_Mo_hasRoutes 18 rfl) ml_Mo_110 lz_Mo_contains rfl lw_Mo_contains ⟨rfl, rfl, Nat.le_of_ble_eq_true rfl, Nat.le_of_ble_eq_true rfl⟩ rfl rfl (Nat.le_of_ble_eq_true rfl) (c_Mo_contains w.1)) ?_
      have w := w.2
      refine fv_if_eq (tgt := 36) (ft_d o_Mo_hasRoutes 19 rfl) rfl rfl (fun c => ?_) (fun c => ?_)
      · have w := w.1 (ft_if0.mp c)
        refine fv_iinc (L' := [some (.inr (.inr 309)), some (.inl x1), some (.inl x2), some (.inl (ft_add x3 1))]) (ft_d o_Mo_hasRoutes 22 rfl) rfl rfl (Nat.le_of_ble_eq_true rfl) rfl ?_
        refine fv_goto (pc' := 2) (ft_d o_Mo_hasRoutes 23 rfl) rfl ?_
        exact w
      · have w := w.2 (ft_if1.mp c)
        refine fv_iconst (ft_d o_Mo_hasRoutes 20 rfl) rfl rfl ?_
        exact fv_zreturn (ft_d o_Mo_hasRoutes 21 rfl) rfl (Or.inr rfl) w
set_option maxRecDepth 20000 in
theorem b_Mo_laysParts_0  {h : ftH} {R : Option ftV → ftH → Prop} 
    (w : (∀ h1 : ftH, h1 = ft_hs h 309 10 0 → (∃ R1 : Option ftV → ftH → Prop, ft_C k_Mo_addsPart [.inr (.inr 309), .inl 0, .inl 0] h1 R1 ∧ ∀ h2 : ftH, R1 none h2 → ft_V k_Mo_laysParts 13 [some (.inr (.inr 309)), some (.inl 0), none, none] [] h2 R))) : ft_V k_Mo_laysParts 0 [some (.inr (.inr 309)), none, none, none] [] h R := by
  refine fv_aload_n (ft_d o_Mo_laysParts 0 rfl) rfl rfl ?_
  refine fv_iconst (ft_d o_Mo_laysParts 1 rfl) rfl rfl ?_
  refine fv_putI (ft_d o_Mo_laysParts 2 rfl) rfl fl_Mo_227 rfl rfl sh_309 rfl ?_
  generalize eh1 : ft_hs h 309 10 0 = h1
  have w := w h1 eh1.symm
  refine fv_aload_n (ft_d o_Mo_laysParts 3 rfl) rfl rfl ?_
  refine fv_iconst (ft_d o_Mo_laysParts 4 rfl) rfl rfl ?_
  refine fv_iconst (ft_d o_Mo_laysParts 5 rfl) rfl rfl ?_
  obtain ⟨R1, c2, w⟩ := w
  refine fv_callv (st := []) rfl rfl (ft_mm (pre := [.inl 0, .inl 0, .inr (.inr 309)]) rfl) (ft_rnV (K' := k_Mo_addsPart) (As := [.inl 0, .inl 0]) (ft_d o_Mo_laysParts 6 rfl) ml_Mo_230 li_Mo_addsPart.1 li_Mo_addsPart.2 lw_Mo_addsPart ⟨rfl, rfl, Nat.le_of_ble_eq_true rfl, Nat.le_of_ble_eq_true rfl⟩ sh_309 rfl rfl rfl rfl (Nat.le_of_ble_eq_true rfl) c2) (fun h2 hw => ?_)
  have w := w h2 hw
  refine fv_iconst (ft_d o_Mo_laysParts 7 rfl) rfl rfl ?_
  refine fv_istore_n (L' := [some (.inr (.inr 309)), some (.inl 0), none, none]) (ft_d o_Mo_laysParts 8 rfl) rfl (Nat.le_of_ble_eq_true rfl) rfl ?_
  exact w
set_option maxRecDepth 20000 in
theorem b_Mo_laysParts_13 {x1 : Int} {h : ftH} {R : Option ftV → ftH → Prop} 
    (w : ((h 309 10 ≤ x1 → (∀ n1 : Int, n1 = ft_sub (h 309 10) 1 → ft_V k_Mo_laysParts 106 [some (.inr (.inr 309)), some (.inl n1), none, none] [] h R)) ∧ (¬ (h 309 10 ≤ x1) → ((0 ≤ x1 ∧ x1 < 3900) ∧ (∀ n2 : Int, n2 = h 313 x1.toNat → ((0 ≤ x1 ∧ x1 < 3900) ∧ (∀ n3 : Int, n3 = h 314 x1.toNat → (∃ R4 : Option ftV → ftH → Prop, ft_C k_Mo_hasRoutes [.inr (.inr 309), .inl n2, .inl n3] h R4 ∧ ∀ (z6 : Int) (h1 : ftH), ft_in z6 → R4 (some (.inl z6)) h1 → ((¬ (z6 = 0) → ((0 ≤ x1 ∧ x1 < 3900) ∧ (∀ h2 : ftH, h2 = ft_hs h1 315 x1.toNat (h1 309 10) → (∃ R7 : Option ftV → ftH → Prop, ft_C k_Mo_addsPart [.inr (.inr 309), .inl n2, .inl (ft_add n3 1)] h2 R7 ∧ ∀ h3 : ftH, R7 none h3 → (∃ R9 : Option ftV → ftH → Prop, ft_C k_Mo_addsPart [.inr (.inr 309), .inl (ft_or n2 (ft_shl 1 (ft_sub 31 n3))), .inl (ft_add n3 1)] h3 R9 ∧ ∀ h4 : ftH, R9 none h4 → ft_V k_Mo_laysParts 13 [some (.inr (.inr 309)), some (.inl (ft_add x1 1)), none, none] [] h4 R))))) ∧ (z6 = 0 → (∃ R11 : Option ftV → ftH → Prop, ft_C k_Mo_answers [.inr (.inr 309), .inl n2] h1 R11 ∧ ∀ (z13 : Int) (h5 : ftH), ft_in z13 → R11 (some (.inl z13)) h5 → ((0 ≤ x1 ∧ x1 < 3900) ∧ (∀ h6 : ftH, h6 = ft_hs h5 316 x1.toNat (ft_shl 1 z13) → ft_V k_Mo_laysParts 13 [some (.inr (.inr 309)), some (.inl (ft_add x1 1)), none, none] [] h6 R))))))))))))) : ft_V k_Mo_laysParts 13 [some (.inr (.inr 309)), some (.inl x1), none, none] [] h R := by
  refine fv_iload_n (ft_d o_Mo_laysParts 9 rfl) rfl rfl ?_
  refine fv_aload_n (ft_d o_Mo_laysParts 10 rfl) rfl rfl ?_
  refine fv_getI (ft_d o_Mo_laysParts 11 rfl) rfl fl_Mo_227 sh_309 rfl ?_
  refine fv_icmp_ge (tgt := 99) (ft_d o_Mo_laysParts 12 rfl) rfl rfl (fun c => ?_) (fun c => ?_)
  · have w := w.1 c
    refine fv_aload_n (ft_d o_Mo_laysParts 64 rfl) rfl rfl ?_
    refine fv_getI (ft_d o_Mo_laysParts 65 rfl) rfl fl_Mo_227 sh_309 rfl ?_
    refine fv_iconst (ft_d o_Mo_laysParts 66 rfl) rfl rfl ?_
    refine fv_isub (ft_d o_Mo_laysParts 67 rfl) rfl ?_
    generalize en1 : ft_sub (h 309 10) 1 = n1
    have w := w n1 en1.symm
    refine fv_istore_n (L' := [some (.inr (.inr 309)), some (.inl n1), none, none]) (ft_d o_Mo_laysParts 68 rfl) rfl (Nat.le_of_ble_eq_true rfl) rfl ?_
    exact w
  · have w := w.2 c
    refine fv_aload_n (ft_d o_Mo_laysParts 13 rfl) rfl rfl ?_
    refine fv_getR (b := 313) (ft_d o_Mo_laysParts 14 rfl) rfl fl_Mo_23 sh_309 rfl ly_309_5 ?_
    refine fv_iload_n (ft_d o_Mo_laysParts 15 rfl) rfl rfl ?_
    refine fv_iald (ft_d o_Mo_laysParts 16 rfl) rfl sh_313 w.1 ?_
    have w := w.2
    generalize en2 : h 313 x1.toNat = n2
    have w := w n2 en2.symm
    refine fv_istore_n (L' := [some (.inr (.inr 309)), some (.inl x1), some (.inl n2), none]) (ft_d o_Mo_laysParts 17 rfl) rfl (Nat.le_of_ble_eq_true rfl) rfl ?_
    refine fv_aload_n (ft_d o_Mo_laysParts 18 rfl) rfl rfl ?_
    refine fv_getR (b := 314) (ft_d o_Mo_laysParts 19 rfl) rfl fl_Mo_26 sh_309 rfl ly_309_6 ?_
    refine fv_iload_n (ft_d o_Mo_laysParts 20 rfl) rfl rfl ?_
    refine fv_iald (ft_d o_Mo_laysParts 21 rfl) rfl sh_314 w.1 ?_
    have w := w.2
    generalize en3 : h 314 x1.toNat = n3
    have w := w n3 en3.symm
    refine fv_istore_n (L' := [some (.inr (.inr 309)), some (.inl x1), some (.inl n2), some (.inl n3)]) (ft_d o_Mo_laysParts 22 rfl) rfl (Nat.le_of_ble_eq_true rfl) rfl ?_
    refine fv_aload_n (ft_d o_Mo_laysParts 23 rfl) rfl rfl ?_
    refine fv_iload_n (ft_d o_Mo_laysParts 24 rfl) rfl rfl ?_
    refine fv_iload_n (ft_d o_Mo_laysParts 25 rfl) rfl rfl ?_
    obtain ⟨R4, c5, w⟩ := w
    refine fv_calli (st := []) (Or.inr rfl) rfl (ft_mm (pre := [.inl n3, .inl n2, .inr (.inr 309)]) rfl) (ft_rnV (K' := k_Mo_hasRoutes) (As := [.inl n2, .inl n3]) (ft_d o_Mo_laysParts 26 rfl) ml_Mo_233 li_Mo_hasRoutes.1 li_Mo_hasRoutes.2 lw_Mo_hasRoutes ⟨rfl, rfl, Nat.le_of_ble_eq_true rfl, Nat.le_of_ble_eq_true rfl⟩ sh_309 rfl rfl rfl rfl (Nat.le_of_ble_eq_true rfl) c5) (fun z6 h1 hz hw => ?_)
    have w := w z6 h1 hz hw
    refine fv_if_ne (tgt := 60) (ft_d o_Mo_laysParts 27 rfl) rfl rfl (fun c => ?_) (fun c => ?_)
    · have w := w.1 c
      refine fv_aload_n (ft_d o_Mo_laysParts 38 rfl) rfl rfl ?_
      refine fv_getR (b := 315) (ft_d o_Mo_laysParts 39 rfl) rfl fl_Mo_29 sh_309 rfl ly_309_7 ?_
      refine fv_iload_n (ft_d o_Mo_laysParts 40 rfl) rfl rfl ?_
      refine fv_aload_n (ft_d o_Mo_laysParts 41 rfl) rfl rfl ?_
      refine fv_getI (ft_d o_Mo_laysParts 42 rfl) rfl fl_Mo_227 sh_309 rfl ?_
      refine fv_iast (ft_d o_Mo_laysParts 43 rfl) rfl sh_315 w.1 ?_
      have w := w.2
      generalize eh2 : ft_hs h1 315 x1.toNat (h1 309 10) = h2
      have w := w h2 eh2.symm
      refine fv_aload_n (ft_d o_Mo_laysParts 44 rfl) rfl rfl ?_
      refine fv_iload_n (ft_d o_Mo_laysParts 45 rfl) rfl rfl ?_
      refine fv_iload_n (ft_d o_Mo_laysParts 46 rfl) rfl rfl ?_
      refine fv_iconst (ft_d o_Mo_laysParts 47 rfl) rfl rfl ?_
      refine fv_iadd (ft_d o_Mo_laysParts 48 rfl) rfl ?_
      obtain ⟨R7, c8, w⟩ := w
      refine fv_callv (st := []) rfl rfl (ft_mm (pre := [.inl (ft_add n3 1), .inl n2, .inr (.inr 309)]) rfl) (ft_rnV (K' := k_Mo_addsPart) (As := [.inl n2, .inl (ft_add n3 1)]) (ft_d o_Mo_laysParts 49 rfl) ml_Mo_230 li_Mo_addsPart.1 li_Mo_addsPart.2 lw_Mo_addsPart ⟨rfl, rfl, Nat.le_of_ble_eq_true rfl, Nat.le_of_ble_eq_true rfl⟩ sh_309 rfl rfl rfl rfl (Nat.le_of_ble_eq_true rfl) c8) (fun h3 hw => ?_)
      have w := w h3 hw
      refine fv_aload_n (ft_d o_Mo_laysParts 50 rfl) rfl rfl ?_
      refine fv_iload_n (ft_d o_Mo_laysParts 51 rfl) rfl rfl ?_
      refine fv_iconst (ft_d o_Mo_laysParts 52 rfl) rfl rfl ?_
      refine fv_bipush (ft_d o_Mo_laysParts 53 rfl) rfl rfl ?_
      refine fv_iload_n (ft_d o_Mo_laysParts 54 rfl) rfl rfl ?_
      refine fv_isub (ft_d o_Mo_laysParts 55 rfl) rfl ?_
      refine fv_ishl (ft_d o_Mo_laysParts 56 rfl) rfl ?_
      refine fv_ior (ft_d o_Mo_laysParts 57 rfl) rfl ?_
      refine fv_iload_n (ft_d o_Mo_laysParts 58 rfl) rfl rfl ?_
      refine fv_iconst (ft_d o_Mo_laysParts 59 rfl) rfl rfl ?_
      refine fv_iadd (ft_d o_Mo_laysParts 60 rfl) rfl ?_
      obtain ⟨R9, c10, w⟩ := w
      refine fv_callv (st := []) rfl rfl (ft_mm (pre := [.inl (ft_add n3 1), .inl (ft_or n2 (ft_shl 1 (ft_sub 31 n3))), .inr (.inr 309)]) rfl) (ft_rnV (K' := k_Mo_addsPart) (As := [.inl (ft_or n2 (ft_shl 1 (ft_sub 31 n3))), .inl (ft_add n3 1)]) (ft_d o_Mo_laysParts 61 rfl) ml_Mo_230 li_Mo_addsPart.1 li_Mo_addsPart.2 lw_Mo_addsPart ⟨rfl, rfl, Nat.le_of_ble_eq_true rfl, Nat.le_of_ble_eq_true rfl⟩ sh_309 rfl rfl rfl rfl (Nat.le_of_ble_eq_true rfl) c10) (fun h4 hw => ?_)
      have w := w h4 hw
      refine fv_iinc (L' := [some (.inr (.inr 309)), some (.inl (ft_add x1 1)), some (.inl n2), some (.inl n3)]) (ft_d o_Mo_laysParts 62 rfl) rfl rfl (Nat.le_of_ble_eq_true rfl) rfl ?_
      refine fv_goto (pc' := 13) (ft_d o_Mo_laysParts 63 rfl) rfl ?_
      refine fv_mask (M := [true, true, false, false]) rfl ?_
      exact w
    · have w := w.2 c
      refine fv_aload_n (ft_d o_Mo_laysParts 28 rfl) rfl rfl ?_
      refine fv_getR (b := 316) (ft_d o_Mo_laysParts 29 rfl) rfl fl_Mo_32 sh_309 rfl ly_309_8 ?_
      refine fv_iload_n (ft_d o_Mo_laysParts 30 rfl) rfl rfl ?_
      refine fv_iconst (ft_d o_Mo_laysParts 31 rfl) rfl rfl ?_
      refine fv_aload_n (ft_d o_Mo_laysParts 32 rfl) rfl rfl ?_
      refine fv_iload_n (ft_d o_Mo_laysParts 33 rfl) rfl rfl ?_
      obtain ⟨R11, c12, w⟩ := w
      refine fv_calli (st := [.inl 1, .inl x1, .inr (.inr 316)]) (Or.inl rfl) rfl (ft_mm (pre := [.inl n2, .inr (.inr 309)]) rfl) (ft_rnV (K' := k_Mo_answers) (As := [.inl n2]) (ft_d o_Mo_laysParts 34 rfl) ml_Mo_154 li_Mo_answers.1 li_Mo_answers.2 lw_Mo_answers ⟨rfl, rfl, Nat.le_of_ble_eq_true rfl, Nat.le_of_ble_eq_true rfl⟩ sh_309 rfl rfl rfl rfl (Nat.le_of_ble_eq_true rfl) c12) (fun z13 h5 hz hw => ?_)
      have w := w z13 h5 hz hw
      refine fv_ishl (ft_d o_Mo_laysParts 35 rfl) rfl ?_
      refine fv_iast (ft_d o_Mo_laysParts 36 rfl) rfl sh_316 w.1 ?_
      have w := w.2
      generalize eh6 : ft_hs h5 316 x1.toNat (ft_shl 1 z13) = h6
      have w := w h6 eh6.symm
      refine fv_goto (pc' := 93) (ft_d o_Mo_laysParts 37 rfl) rfl ?_
      refine fv_iinc (L' := [some (.inr (.inr 309)), some (.inl (ft_add x1 1)), some (.inl n2), some (.inl n3)]) (ft_d o_Mo_laysParts 62 rfl) rfl rfl (Nat.le_of_ble_eq_true rfl) rfl ?_
      refine fv_goto (pc' := 13) (ft_d o_Mo_laysParts 63 rfl) rfl ?_
      refine fv_mask (M := [true, true, false, false]) rfl ?_
      exact w
set_option maxRecDepth 20000 in
theorem b_Mo_laysParts_106 {x1 : Int} {h : ftH} {R : Option ftV → ftH → Prop} 
    (w : ((x1 < 0 → R none h) ∧ (¬ (x1 < 0) → ((0 ≤ x1 ∧ x1 < 3900) ∧ ((¬ (h 315 x1.toNat = 0) → ((0 ≤ x1 ∧ x1 < 3900) ∧ ((0 ≤ h 315 x1.toNat ∧ h 315 x1.toNat < 3900) ∧ (∀ n1 : Int, n1 = h 316 (h 315 x1.toNat).toNat → ((0 ≤ x1 ∧ x1 < 3900) ∧ ((0 ≤ ft_add (h 315 x1.toNat) 1 ∧ ft_add (h 315 x1.toNat) 1 < 3900) ∧ (∀ n2 : Int, n2 = h 316 (ft_add (h 315 x1.toNat) 1).toNat → ((ft_and n1 n2 = 0 → ((0 ≤ x1 ∧ x1 < 3900) ∧ (∀ h1 : ftH, h1 = ft_hs h 316 x1.toNat (ft_or n1 n2) → ft_V k_Mo_laysParts 106 [some (.inr (.inr 309)), some (.inl (ft_add x1 (-1))), none, none] [] h1 R))) ∧ (¬ (ft_and n1 n2 = 0) → ((0 ≤ x1 ∧ x1 < 3900) ∧ (∀ h2 : ftH, h2 = ft_hs h 316 x1.toNat (ft_and n1 n2) → ft_V k_Mo_laysParts 106 [some (.inr (.inr 309)), some (.inl (ft_add x1 (-1))), none, none] [] h2 R))))))))))) ∧ (h 315 x1.toNat = 0 → ft_V k_Mo_laysParts 106 [some (.inr (.inr 309)), some (.inl (ft_add x1 (-1))), none, none] [] h R)))))) : ft_V k_Mo_laysParts 106 [some (.inr (.inr 309)), some (.inl x1), none, none] [] h R := by
  refine fv_iload_n (ft_d o_Mo_laysParts 69 rfl) rfl rfl ?_
  refine fv_if_lt (tgt := 175) (ft_d o_Mo_laysParts 70 rfl) rfl rfl (fun c => ?_) (fun c => ?_)
  · have w := w.1 c
    exact fv_return (ft_d o_Mo_laysParts 112 rfl) rfl w
  · have w := w.2 c
    refine fv_aload_n (ft_d o_Mo_laysParts 71 rfl) rfl rfl ?_
    refine fv_getR (b := 315) (ft_d o_Mo_laysParts 72 rfl) rfl fl_Mo_29 sh_309 rfl ly_309_7 ?_
    refine fv_iload_n (ft_d o_Mo_laysParts 73 rfl) rfl rfl ?_
    refine fv_iald (ft_d o_Mo_laysParts 74 rfl) rfl sh_315 w.1 ?_
    have w := w.2
    refine fv_if_ne (tgt := 122) (ft_d o_Mo_laysParts 75 rfl) rfl rfl (fun c => ?_) (fun c => ?_)
    · have w := w.1 c
      refine fv_aload_n (ft_d o_Mo_laysParts 77 rfl) rfl rfl ?_
      refine fv_getR (b := 316) (ft_d o_Mo_laysParts 78 rfl) rfl fl_Mo_32 sh_309 rfl ly_309_8 ?_
      refine fv_aload_n (ft_d o_Mo_laysParts 79 rfl) rfl rfl ?_
      refine fv_getR (b := 315) (ft_d o_Mo_laysParts 80 rfl) rfl fl_Mo_29 sh_309 rfl ly_309_7 ?_
      refine fv_iload_n (ft_d o_Mo_laysParts 81 rfl) rfl rfl ?_
      refine fv_iald (ft_d o_Mo_laysParts 82 rfl) rfl sh_315 w.1 ?_
      have w := w.2
      refine fv_iald (ft_d o_Mo_laysParts 83 rfl) rfl sh_316 w.1 ?_
      have w := w.2
      generalize en1 : h 316 (h 315 x1.toNat).toNat = n1
      have w := w n1 en1.symm
      refine fv_istore_n (L' := [some (.inr (.inr 309)), some (.inl x1), some (.inl n1), none]) (ft_d o_Mo_laysParts 84 rfl) rfl (Nat.le_of_ble_eq_true rfl) rfl ?_
      refine fv_aload_n (ft_d o_Mo_laysParts 85 rfl) rfl rfl ?_
      refine fv_getR (b := 316) (ft_d o_Mo_laysParts 86 rfl) rfl fl_Mo_32 sh_309 rfl ly_309_8 ?_
      refine fv_aload_n (ft_d o_Mo_laysParts 87 rfl) rfl rfl ?_
      refine fv_getR (b := 315) (ft_d o_Mo_laysParts 88 rfl) rfl fl_Mo_29 sh_309 rfl ly_309_7 ?_
      refine fv_iload_n (ft_d o_Mo_laysParts 89 rfl) rfl rfl ?_
      refine fv_iald (ft_d o_Mo_laysParts 90 rfl) rfl sh_315 w.1 ?_
      have w := w.2
      refine fv_iconst (ft_d o_Mo_laysParts 91 rfl) rfl rfl ?_
      refine fv_iadd (ft_d o_Mo_laysParts 92 rfl) rfl ?_
      refine fv_iald (ft_d o_Mo_laysParts 93 rfl) rfl sh_316 w.1 ?_
      have w := w.2
      generalize en2 : h 316 (ft_add (h 315 x1.toNat) 1).toNat = n2
      have w := w n2 en2.symm
      refine fv_istore_n (L' := [some (.inr (.inr 309)), some (.inl x1), some (.inl n1), some (.inl n2)]) (ft_d o_Mo_laysParts 94 rfl) rfl (Nat.le_of_ble_eq_true rfl) rfl ?_
      refine fv_aload_n (ft_d o_Mo_laysParts 95 rfl) rfl rfl ?_
      refine fv_getR (b := 316) (ft_d o_Mo_laysParts 96 rfl) rfl fl_Mo_32 sh_309 rfl ly_309_8 ?_
      refine fv_iload_n (ft_d o_Mo_laysParts 97 rfl) rfl rfl ?_
      refine fv_iload_n (ft_d o_Mo_laysParts 98 rfl) rfl rfl ?_
      refine fv_iload_n (ft_d o_Mo_laysParts 99 rfl) rfl rfl ?_
      refine fv_iand (ft_d o_Mo_laysParts 100 rfl) rfl ?_
      refine fv_if_eq (tgt := 165) (ft_d o_Mo_laysParts 101 rfl) rfl rfl (fun c => ?_) (fun c => ?_)
      · have w := w.1 c
        refine fv_iload_n (ft_d o_Mo_laysParts 106 rfl) rfl rfl ?_
        refine fv_iload_n (ft_d o_Mo_laysParts 107 rfl) rfl rfl ?_
        refine fv_ior (ft_d o_Mo_laysParts 108 rfl) rfl ?_
        refine fv_iast (ft_d o_Mo_laysParts 109 rfl) rfl sh_316 w.1 ?_
        have w := w.2
        generalize eh1 : ft_hs h 316 x1.toNat (ft_or n1 n2) = h1
        have w := w h1 eh1.symm
        refine fv_iinc (L' := [some (.inr (.inr 309)), some (.inl (ft_add x1 (-1))), some (.inl n1), some (.inl n2)]) (ft_d o_Mo_laysParts 110 rfl) rfl rfl (Nat.le_of_ble_eq_true rfl) rfl ?_
        refine fv_goto (pc' := 106) (ft_d o_Mo_laysParts 111 rfl) rfl ?_
        refine fv_mask (M := [true, true, false, false]) rfl ?_
        exact w
      · have w := w.2 c
        refine fv_iload_n (ft_d o_Mo_laysParts 102 rfl) rfl rfl ?_
        refine fv_iload_n (ft_d o_Mo_laysParts 103 rfl) rfl rfl ?_
        refine fv_iand (ft_d o_Mo_laysParts 104 rfl) rfl ?_
        refine fv_goto (pc' := 168) (ft_d o_Mo_laysParts 105 rfl) rfl ?_
        refine fv_iast (ft_d o_Mo_laysParts 109 rfl) rfl sh_316 w.1 ?_
        have w := w.2
        generalize eh2 : ft_hs h 316 x1.toNat (ft_and n1 n2) = h2
        have w := w h2 eh2.symm
        refine fv_iinc (L' := [some (.inr (.inr 309)), some (.inl (ft_add x1 (-1))), some (.inl n1), some (.inl n2)]) (ft_d o_Mo_laysParts 110 rfl) rfl rfl (Nat.le_of_ble_eq_true rfl) rfl ?_
        refine fv_goto (pc' := 106) (ft_d o_Mo_laysParts 111 rfl) rfl ?_
        refine fv_mask (M := [true, true, false, false]) rfl ?_
        exact w
    · have w := w.2 c
      refine fv_goto (pc' := 169) (ft_d o_Mo_laysParts 76 rfl) rfl ?_
      refine fv_iinc (L' := [some (.inr (.inr 309)), some (.inl (ft_add x1 (-1))), none, none]) (ft_d o_Mo_laysParts 110 rfl) rfl rfl (Nat.le_of_ble_eq_true rfl) rfl ?_
      refine fv_goto (pc' := 106) (ft_d o_Mo_laysParts 111 rfl) rfl ?_
      exact w
set_option maxRecDepth 20000 in
theorem b_Mo_least_0 {x0 : Int} {h : ftH} {R : Option ftV → ftH → Prop} 
    (w : ft_V k_Mo_least 2 [some (.inl x0), some (.inl 0)] [] h R) : ft_V k_Mo_least 0 [some (.inl x0), none] [] h R := by
  refine fv_iconst (ft_d o_Mo_least 0 rfl) rfl rfl ?_
  refine fv_istore_n (L' := [some (.inl x0), some (.inl 0)]) (ft_d o_Mo_least 1 rfl) rfl (Nat.le_of_ble_eq_true rfl) rfl ?_
  exact w
set_option maxRecDepth 20000 in
theorem b_Mo_least_2 {x0 : Int} {x1 : Int} {h : ftH} {R : Option ftV → ftH → Prop} 
    (w : ((¬ (ft_and (ft_shr x0 x1) 1 = 0) → R (some (.inl x1)) h) ∧ (ft_and (ft_shr x0 x1) 1 = 0 → ft_V k_Mo_least 2 [some (.inl x0), some (.inl (ft_add x1 1))] [] h R))) : ft_V k_Mo_least 2 [some (.inl x0), some (.inl x1)] [] h R := by
  refine fv_iload_n (ft_d o_Mo_least 2 rfl) rfl rfl ?_
  refine fv_iload_n (ft_d o_Mo_least 3 rfl) rfl rfl ?_
  refine fv_ishr (ft_d o_Mo_least 4 rfl) rfl ?_
  refine fv_iconst (ft_d o_Mo_least 5 rfl) rfl rfl ?_
  refine fv_iand (ft_d o_Mo_least 6 rfl) rfl ?_
  refine fv_if_ne (tgt := 16) (ft_d o_Mo_least 7 rfl) rfl rfl (fun c => ?_) (fun c => ?_)
  · have w := w.1 c
    refine fv_iload_n (ft_d o_Mo_least 10 rfl) rfl rfl ?_
    exact fv_ireturn (ft_d o_Mo_least 11 rfl) rfl w
  · have w := w.2 c
    refine fv_iinc (L' := [some (.inl x0), some (.inl (ft_add x1 1))]) (ft_d o_Mo_least 8 rfl) rfl rfl (Nat.le_of_ble_eq_true rfl) rfl ?_
    refine fv_goto (pc' := 2) (ft_d o_Mo_least 9 rfl) rfl ?_
    exact w
set_option maxRecDepth 20000 in
theorem b_Mo_addsEntry_0 {x1 : Int} {x2 : Int} {x3 : Int} {h : ftH} {R : Option ftV → ftH → Prop} 
    (w : (∀ n1 : Int, n1 = h 309 14 → ft_V k_Mo_addsEntry 6 [some (.inr (.inr 309)), some (.inl x1), some (.inl x2), some (.inl x3), some (.inl n1)] [] h R)) : ft_V k_Mo_addsEntry 0 [some (.inr (.inr 309)), some (.inl x1), some (.inl x2), some (.inl x3), none] [] h R := by
  refine fv_aload_n (ft_d o_Mo_addsEntry 0 rfl) rfl rfl ?_
  refine fv_getI (ft_d o_Mo_addsEntry 1 rfl) rfl fl_Mo_236 sh_309 rfl ?_
  generalize en1 : h 309 14 = n1
  have w := w n1 en1.symm
  refine fv_istore (L' := [some (.inr (.inr 309)), some (.inl x1), some (.inl x2), some (.inl x3), some (.inl n1)]) (ft_d o_Mo_addsEntry 2 rfl) rfl (Nat.le_of_ble_eq_true rfl) rfl ?_
  exact w
set_option maxRecDepth 20000 in
theorem b_Mo_addsEntry_6 {x1 : Int} {x2 : Int} {x3 : Int} {x4 : Int} {h : ftH} {R : Option ftV → ftH → Prop} 
    (w : ((x4 ≤ 0 → ((0 ≤ x4 ∧ x4 < 64) ∧ (∀ h1 : ftH, h1 = ft_hs h 318 x4.toNat x1 → ((0 ≤ x4 ∧ x4 < 64) ∧ (∀ h2 : ftH, h2 = ft_hs h1 319 x4.toNat x2 → ((0 ≤ x4 ∧ x4 < 64) ∧ (∀ h3 : ftH, h3 = ft_hs h2 320 x4.toNat x3 → (∀ h4 : ftH, h4 = ft_hs h3 309 14 (ft_add (h3 309 14) 1) → R none h4)))))))) ∧ (¬ (x4 ≤ 0) → ((0 ≤ ft_sub x4 1 ∧ ft_sub x4 1 < 64) ∧ ((0 ≤ ft_sub x4 1 ∧ ft_sub x4 1 < 64) ∧ (((0 ≤ x2 ∧ x2 ≤ 32) ∧ (0 ≤ (h 319 (ft_sub x4 1).toNat) ∧ (h 319 (ft_sub x4 1).toNat) ≤ 32)) ∧ ((¬ (64 * pUn x1 + x2 < 64 * pUn (h 318 (ft_sub x4 1).toNat) + (h 319 (ft_sub x4 1).toNat)) → ((0 ≤ x4 ∧ x4 < 64) ∧ (∀ h5 : ftH, h5 = ft_hs h 318 x4.toNat x1 → ((0 ≤ x4 ∧ x4 < 64) ∧ (∀ h6 : ftH, h6 = ft_hs h5 319 x4.toNat x2 → ((0 ≤ x4 ∧ x4 < 64) ∧ (∀ h7 : ftH, h7 = ft_hs h6 320 x4.toNat x3 → (∀ h8 : ftH, h8 = ft_hs h7 309 14 (ft_add (h7 309 14) 1) → R none h8)))))))) ∧ (64 * pUn x1 + x2 < 64 * pUn (h 318 (ft_sub x4 1).toNat) + (h 319 (ft_sub x4 1).toNat) → ((0 ≤ ft_sub x4 1 ∧ ft_sub x4 1 < 64) ∧ ((0 ≤ x4 ∧ x4 < 64) ∧ (∀ h9 : ftH, h9 = ft_hs h 318 x4.toNat (h 318 (ft_sub x4 1).toNat) → ((0 ≤ ft_sub x4 1 ∧ ft_sub x4 1 < 64) ∧ ((0 ≤ x4 ∧ x4 < 64) ∧ (∀ h10 : ftH, h10 = ft_hs h9 319 x4.toNat (h9 319 (ft_sub x4 1).toNat) → ((0 ≤ ft_sub x4 1 ∧ ft_sub x4 1 < 64) ∧ ((0 ≤ x4 ∧ x4 < 64) ∧ (∀ h11 : ftH, h11 = ft_hs h10 320 x4.toNat (h10 320 (ft_sub x4 1).toNat) → ft_V k_Mo_addsEntry 6 [some (.inr (.inr 309)), some (.inl x1), some (.inl x2), some (.inl x3), some (.inl (ft_add x4 (-1)))] [] h11 R))))))))))))))))) : ft_V k_Mo_addsEntry 6 [some (.inr (.inr 309)), some (.inl x1), some (.inl x2), some (.inl x3), some (.inl x4)] [] h R := by
  refine fv_iload (ft_d o_Mo_addsEntry 3 rfl) rfl rfl ?_
  refine fv_if_le (tgt := 91) (ft_d o_Mo_addsEntry 4 rfl) rfl rfl (fun c => ?_) (fun c => ?_)
  · have w := w.1 c
    refine fv_aload_n (ft_d o_Mo_addsEntry 53 rfl) rfl rfl ?_
    refine fv_getR (b := 318) (ft_d o_Mo_addsEntry 54 rfl) rfl fl_Mo_38 sh_309 rfl ly_309_11 ?_
    refine fv_iload (ft_d o_Mo_addsEntry 55 rfl) rfl rfl ?_
    refine fv_iload_n (ft_d o_Mo_addsEntry 56 rfl) rfl rfl ?_
    refine fv_iast (ft_d o_Mo_addsEntry 57 rfl) rfl sh_318 w.1 ?_
    have w := w.2
    generalize eh1 : ft_hs h 318 x4.toNat x1 = h1
    have w := w h1 eh1.symm
    refine fv_aload_n (ft_d o_Mo_addsEntry 58 rfl) rfl rfl ?_
    refine fv_getR (b := 319) (ft_d o_Mo_addsEntry 59 rfl) rfl fl_Mo_41 sh_309 rfl ly_309_12 ?_
    refine fv_iload (ft_d o_Mo_addsEntry 60 rfl) rfl rfl ?_
    refine fv_iload_n (ft_d o_Mo_addsEntry 61 rfl) rfl rfl ?_
    refine fv_iast (ft_d o_Mo_addsEntry 62 rfl) rfl sh_319 w.1 ?_
    have w := w.2
    generalize eh2 : ft_hs h1 319 x4.toNat x2 = h2
    have w := w h2 eh2.symm
    refine fv_aload_n (ft_d o_Mo_addsEntry 63 rfl) rfl rfl ?_
    refine fv_getR (b := 320) (ft_d o_Mo_addsEntry 64 rfl) rfl fl_Mo_44 sh_309 rfl ly_309_13 ?_
    refine fv_iload (ft_d o_Mo_addsEntry 65 rfl) rfl rfl ?_
    refine fv_iload_n (ft_d o_Mo_addsEntry 66 rfl) rfl rfl ?_
    refine fv_iast (ft_d o_Mo_addsEntry 67 rfl) rfl sh_320 w.1 ?_
    have w := w.2
    generalize eh3 : ft_hs h2 320 x4.toNat x3 = h3
    have w := w h3 eh3.symm
    refine fv_aload_n (ft_d o_Mo_addsEntry 68 rfl) rfl rfl ?_
    refine fv_dup (ft_d o_Mo_addsEntry 69 rfl) rfl rfl ?_
    refine fv_getI (ft_d o_Mo_addsEntry 70 rfl) rfl fl_Mo_236 sh_309 rfl ?_
    refine fv_iconst (ft_d o_Mo_addsEntry 71 rfl) rfl rfl ?_
    refine fv_iadd (ft_d o_Mo_addsEntry 72 rfl) rfl ?_
    refine fv_putI (ft_d o_Mo_addsEntry 73 rfl) rfl fl_Mo_236 rfl rfl sh_309 rfl ?_
    generalize eh4 : ft_hs h3 309 14 (ft_add (h3 309 14) 1) = h4
    have w := w h4 eh4.symm
    exact fv_return (ft_d o_Mo_addsEntry 74 rfl) rfl w
  · have w := w.2 c
    refine fv_iload_n (ft_d o_Mo_addsEntry 5 rfl) rfl rfl ?_
    refine fv_iload_n (ft_d o_Mo_addsEntry 6 rfl) rfl rfl ?_
    refine fv_aload_n (ft_d o_Mo_addsEntry 7 rfl) rfl rfl ?_
    refine fv_getR (b := 318) (ft_d o_Mo_addsEntry 8 rfl) rfl fl_Mo_38 sh_309 rfl ly_309_11 ?_
    refine fv_iload (ft_d o_Mo_addsEntry 9 rfl) rfl rfl ?_
    refine fv_iconst (ft_d o_Mo_addsEntry 10 rfl) rfl rfl ?_
    refine fv_isub (ft_d o_Mo_addsEntry 11 rfl) rfl ?_
    refine fv_iald (ft_d o_Mo_addsEntry 12 rfl) rfl sh_318 w.1 ?_
    have w := w.2
    refine fv_aload_n (ft_d o_Mo_addsEntry 13 rfl) rfl rfl ?_
    refine fv_getR (b := 319) (ft_d o_Mo_addsEntry 14 rfl) rfl fl_Mo_41 sh_309 rfl ly_309_12 ?_
    refine fv_iload (ft_d o_Mo_addsEntry 15 rfl) rfl rfl ?_
    refine fv_iconst (ft_d o_Mo_addsEntry 16 rfl) rfl rfl ?_
    refine fv_isub (ft_d o_Mo_addsEntry 17 rfl) rfl ?_
    refine fv_iald (ft_d o_Mo_addsEntry 18 rfl) rfl sh_319 w.1 ?_
    have w := w.2
    refine fv_callif (st := []) (z := (if 64 * pUn x1 + x2 < 64 * pUn (h 318 (ft_sub x4 1).toNat) + (h 319 (ft_sub x4 1).toNat) then 1 else 0)) (Or.inr rfl) rfl (ft_mm (pre := [.inl (h 319 (ft_sub x4 1).toNat), .inl (h 318 (ft_sub x4 1).toNat), .inl x2, .inl x1]) rfl) (ft_rnS (K' := k_Mo_isAhead) (As := [.inl x1, .inl x2, .inl (h 318 (ft_sub x4 1).toNat), .inl (h 319 (ft_sub x4 1).toNat)]) (ft_d o_Mo_addsEntry 19 rfl) ml_Mo_114 lz_Mo_isAhead rfl lw_Mo_isAhead ⟨rfl, rfl, Nat.le_of_ble_eq_true rfl, Nat.le_of_ble_eq_true rfl⟩ rfl rfl (Nat.le_of_ble_eq_true rfl) (c_Mo_isAhead w.1)) ?_
    have w := w.2
    refine fv_if_eq (tgt := 91) (ft_d o_Mo_addsEntry 20 rfl) rfl rfl (fun c => ?_) (fun c => ?_)
    · have w := w.1 (ft_if0.mp c)
      refine fv_aload_n (ft_d o_Mo_addsEntry 53 rfl) rfl rfl ?_
      refine fv_getR (b := 318) (ft_d o_Mo_addsEntry 54 rfl) rfl fl_Mo_38 sh_309 rfl ly_309_11 ?_
      refine fv_iload (ft_d o_Mo_addsEntry 55 rfl) rfl rfl ?_
      refine fv_iload_n (ft_d o_Mo_addsEntry 56 rfl) rfl rfl ?_
      refine fv_iast (ft_d o_Mo_addsEntry 57 rfl) rfl sh_318 w.1 ?_
      have w := w.2
      generalize eh5 : ft_hs h 318 x4.toNat x1 = h5
      have w := w h5 eh5.symm
      refine fv_aload_n (ft_d o_Mo_addsEntry 58 rfl) rfl rfl ?_
      refine fv_getR (b := 319) (ft_d o_Mo_addsEntry 59 rfl) rfl fl_Mo_41 sh_309 rfl ly_309_12 ?_
      refine fv_iload (ft_d o_Mo_addsEntry 60 rfl) rfl rfl ?_
      refine fv_iload_n (ft_d o_Mo_addsEntry 61 rfl) rfl rfl ?_
      refine fv_iast (ft_d o_Mo_addsEntry 62 rfl) rfl sh_319 w.1 ?_
      have w := w.2
      generalize eh6 : ft_hs h5 319 x4.toNat x2 = h6
      have w := w h6 eh6.symm
      refine fv_aload_n (ft_d o_Mo_addsEntry 63 rfl) rfl rfl ?_
      refine fv_getR (b := 320) (ft_d o_Mo_addsEntry 64 rfl) rfl fl_Mo_44 sh_309 rfl ly_309_13 ?_
      refine fv_iload (ft_d o_Mo_addsEntry 65 rfl) rfl rfl ?_
      refine fv_iload_n (ft_d o_Mo_addsEntry 66 rfl) rfl rfl ?_
      refine fv_iast (ft_d o_Mo_addsEntry 67 rfl) rfl sh_320 w.1 ?_
      have w := w.2
      generalize eh7 : ft_hs h6 320 x4.toNat x3 = h7
      have w := w h7 eh7.symm
      refine fv_aload_n (ft_d o_Mo_addsEntry 68 rfl) rfl rfl ?_
      refine fv_dup (ft_d o_Mo_addsEntry 69 rfl) rfl rfl ?_
      refine fv_getI (ft_d o_Mo_addsEntry 70 rfl) rfl fl_Mo_236 sh_309 rfl ?_
      refine fv_iconst (ft_d o_Mo_addsEntry 71 rfl) rfl rfl ?_
      refine fv_iadd (ft_d o_Mo_addsEntry 72 rfl) rfl ?_
      refine fv_putI (ft_d o_Mo_addsEntry 73 rfl) rfl fl_Mo_236 rfl rfl sh_309 rfl ?_
      generalize eh8 : ft_hs h7 309 14 (ft_add (h7 309 14) 1) = h8
      have w := w h8 eh8.symm
      exact fv_return (ft_d o_Mo_addsEntry 74 rfl) rfl w
    · have w := w.2 (ft_if1.mp c)
      refine fv_aload_n (ft_d o_Mo_addsEntry 21 rfl) rfl rfl ?_
      refine fv_getR (b := 318) (ft_d o_Mo_addsEntry 22 rfl) rfl fl_Mo_38 sh_309 rfl ly_309_11 ?_
      refine fv_iload (ft_d o_Mo_addsEntry 23 rfl) rfl rfl ?_
      refine fv_aload_n (ft_d o_Mo_addsEntry 24 rfl) rfl rfl ?_
      refine fv_getR (b := 318) (ft_d o_Mo_addsEntry 25 rfl) rfl fl_Mo_38 sh_309 rfl ly_309_11 ?_
      refine fv_iload (ft_d o_Mo_addsEntry 26 rfl) rfl rfl ?_
      refine fv_iconst (ft_d o_Mo_addsEntry 27 rfl) rfl rfl ?_
      refine fv_isub (ft_d o_Mo_addsEntry 28 rfl) rfl ?_
      refine fv_iald (ft_d o_Mo_addsEntry 29 rfl) rfl sh_318 w.1 ?_
      have w := w.2
      refine fv_iast (ft_d o_Mo_addsEntry 30 rfl) rfl sh_318 w.1 ?_
      have w := w.2
      generalize eh9 : ft_hs h 318 x4.toNat (h 318 (ft_sub x4 1).toNat) = h9
      have w := w h9 eh9.symm
      refine fv_aload_n (ft_d o_Mo_addsEntry 31 rfl) rfl rfl ?_
      refine fv_getR (b := 319) (ft_d o_Mo_addsEntry 32 rfl) rfl fl_Mo_41 sh_309 rfl ly_309_12 ?_
      refine fv_iload (ft_d o_Mo_addsEntry 33 rfl) rfl rfl ?_
      refine fv_aload_n (ft_d o_Mo_addsEntry 34 rfl) rfl rfl ?_
      refine fv_getR (b := 319) (ft_d o_Mo_addsEntry 35 rfl) rfl fl_Mo_41 sh_309 rfl ly_309_12 ?_
      refine fv_iload (ft_d o_Mo_addsEntry 36 rfl) rfl rfl ?_
      refine fv_iconst (ft_d o_Mo_addsEntry 37 rfl) rfl rfl ?_
      refine fv_isub (ft_d o_Mo_addsEntry 38 rfl) rfl ?_
      refine fv_iald (ft_d o_Mo_addsEntry 39 rfl) rfl sh_319 w.1 ?_
      have w := w.2
      refine fv_iast (ft_d o_Mo_addsEntry 40 rfl) rfl sh_319 w.1 ?_
      have w := w.2
      generalize eh10 : ft_hs h9 319 x4.toNat (h9 319 (ft_sub x4 1).toNat) = h10
      have w := w h10 eh10.symm
      refine fv_aload_n (ft_d o_Mo_addsEntry 41 rfl) rfl rfl ?_
      refine fv_getR (b := 320) (ft_d o_Mo_addsEntry 42 rfl) rfl fl_Mo_44 sh_309 rfl ly_309_13 ?_
      refine fv_iload (ft_d o_Mo_addsEntry 43 rfl) rfl rfl ?_
      refine fv_aload_n (ft_d o_Mo_addsEntry 44 rfl) rfl rfl ?_
      refine fv_getR (b := 320) (ft_d o_Mo_addsEntry 45 rfl) rfl fl_Mo_44 sh_309 rfl ly_309_13 ?_
      refine fv_iload (ft_d o_Mo_addsEntry 46 rfl) rfl rfl ?_
      refine fv_iconst (ft_d o_Mo_addsEntry 47 rfl) rfl rfl ?_
      refine fv_isub (ft_d o_Mo_addsEntry 48 rfl) rfl ?_
      refine fv_iald (ft_d o_Mo_addsEntry 49 rfl) rfl sh_320 w.1 ?_
      have w := w.2
      refine fv_iast (ft_d o_Mo_addsEntry 50 rfl) rfl sh_320 w.1 ?_
      have w := w.2
      generalize eh11 : ft_hs h10 320 x4.toNat (h10 320 (ft_sub x4 1).toNat) = h11
      have w := w h11 eh11.symm
      refine fv_iinc (L' := [some (.inr (.inr 309)), some (.inl x1), some (.inl x2), some (.inl x3), some (.inl (ft_add x4 (-1)))]) (ft_d o_Mo_addsEntry 51 rfl) rfl rfl (Nat.le_of_ble_eq_true rfl) rfl ?_
      refine fv_goto (pc' := 6) (ft_d o_Mo_addsEntry 52 rfl) rfl ?_
      exact w
set_option maxRecDepth 20000 in
theorem b_Mo_laysEntries_0  {h : ftH} {R : Option ftV → ftH → Prop} 
    (w : (∃ R1 : Option ftV → ftH → Prop, ft_C k_Mo_laysParts [.inr (.inr 309)] h R1 ∧ ∀ h1 : ftH, R1 none h1 → (∀ h2 : ftH, h2 = ft_hs h1 309 14 0 → (∀ h3 : ftH, h3 = ft_hs h2 317 0 0 → ft_V k_Mo_laysEntries 18 [some (.inr (.inr 309)), some (.inl 0)] [] h3 R)))) : ft_V k_Mo_laysEntries 0 [some (.inr (.inr 309)), none] [] h R := by
  refine fv_aload_n (ft_d o_Mo_laysEntries 0 rfl) rfl rfl ?_
  obtain ⟨R1, c2, w⟩ := w
  refine fv_callv (st := []) rfl rfl (ft_mm (pre := [.inr (.inr 309)]) rfl) (ft_rnV (K' := k_Mo_laysParts) (As := []) (ft_d o_Mo_laysEntries 1 rfl) ml_Mo_239 li_Mo_laysParts.1 li_Mo_laysParts.2 lw_Mo_laysParts ⟨rfl, rfl, Nat.le_of_ble_eq_true rfl, Nat.le_of_ble_eq_true rfl⟩ sh_309 rfl rfl rfl rfl (Nat.le_of_ble_eq_true rfl) c2) (fun h1 hw => ?_)
  have w := w h1 hw
  refine fv_aload_n (ft_d o_Mo_laysEntries 2 rfl) rfl rfl ?_
  refine fv_iconst (ft_d o_Mo_laysEntries 3 rfl) rfl rfl ?_
  refine fv_putI (ft_d o_Mo_laysEntries 4 rfl) rfl fl_Mo_236 rfl rfl sh_309 rfl ?_
  generalize eh2 : ft_hs h1 309 14 0 = h2
  have w := w h2 eh2.symm
  refine fv_aload_n (ft_d o_Mo_laysEntries 5 rfl) rfl rfl ?_
  refine fv_getR (b := 317) (ft_d o_Mo_laysEntries 6 rfl) rfl fl_Mo_35 sh_309 rfl ly_309_9 ?_
  refine fv_iconst (ft_d o_Mo_laysEntries 7 rfl) rfl rfl ?_
  refine fv_iconst (ft_d o_Mo_laysEntries 8 rfl) rfl rfl ?_
  refine fv_iastj (j := 0) (ft_d o_Mo_laysEntries 9 rfl) rfl sh_317 ⟨by decide, by decide⟩ rfl ?_
  generalize eh3 : ft_hs h2 317 0 0 = h3
  have w := w h3 eh3.symm
  refine fv_iconst (ft_d o_Mo_laysEntries 10 rfl) rfl rfl ?_
  refine fv_istore_n (L' := [some (.inr (.inr 309)), some (.inl 0)]) (ft_d o_Mo_laysEntries 11 rfl) rfl (Nat.le_of_ble_eq_true rfl) rfl ?_
  exact w
set_option maxRecDepth 20000 in
theorem b_Mo_laysEntries_18 {x1 : Int} {h : ftH} {R : Option ftV → ftH → Prop} 
    (w : ((h 309 10 ≤ x1 → R none h) ∧ (¬ (h 309 10 ≤ x1) → ((0 ≤ x1 ∧ x1 < 3900) ∧ ((0 ≤ x1 ∧ x1 < 3900) ∧ ((¬ (ft_and (ft_shr (h 316 x1.toNat) (h 317 x1.toNat)) 1 = 0) → ((0 ≤ x1 ∧ x1 < 3900) ∧ ((¬ (h 315 x1.toNat = 0) → ((0 ≤ x1 ∧ x1 < 3900) ∧ ((0 ≤ x1 ∧ x1 < 3900) ∧ ((0 ≤ h 315 x1.toNat ∧ h 315 x1.toNat < 3900) ∧ (∀ h1 : ftH, h1 = ft_hs h 317 (h 315 x1.toNat).toNat (h 317 x1.toNat) → ((0 ≤ x1 ∧ x1 < 3900) ∧ ((0 ≤ x1 ∧ x1 < 3900) ∧ ((0 ≤ ft_add (h1 315 x1.toNat) 1 ∧ ft_add (h1 315 x1.toNat) 1 < 3900) ∧ (∀ h2 : ftH, h2 = ft_hs h1 317 (ft_add (h1 315 x1.toNat) 1).toNat (h1 317 x1.toNat) → ft_V k_Mo_laysEntries 18 [some (.inr (.inr 309)), some (.inl (ft_add x1 1))] [] h2 R))))))))) ∧ (h 315 x1.toNat = 0 → ft_V k_Mo_laysEntries 18 [some (.inr (.inr 309)), some (.inl (ft_add x1 1))] [] h R)))) ∧ (ft_and (ft_shr (h 316 x1.toNat) (h 317 x1.toNat)) 1 = 0 → ((0 ≤ x1 ∧ x1 < 3900) ∧ (∃ R1 : Option ftV → ftH → Prop, ft_C k_Mo_least [.inl (h 316 x1.toNat)] h R1 ∧ ∀ (z3 : Int) (h3 : ftH), ft_in z3 → R1 (some (.inl z3)) h3 → ((0 ≤ x1 ∧ x1 < 3900) ∧ (∀ h4 : ftH, h4 = ft_hs h3 317 x1.toNat z3 → ((0 ≤ x1 ∧ x1 < 3900) ∧ ((0 ≤ x1 ∧ x1 < 3900) ∧ ((0 ≤ x1 ∧ x1 < 3900) ∧ (∃ R4 : Option ftV → ftH → Prop, ft_C k_Mo_addsEntry [.inr (.inr 309), .inl (h4 313 x1.toNat), .inl (h4 314 x1.toNat), .inl (h4 317 x1.toNat)] h4 R4 ∧ ∀ h5 : ftH, R4 none h5 → ((0 ≤ x1 ∧ x1 < 3900) ∧ ((¬ (h5 315 x1.toNat = 0) → ((0 ≤ x1 ∧ x1 < 3900) ∧ ((0 ≤ x1 ∧ x1 < 3900) ∧ ((0 ≤ h5 315 x1.toNat ∧ h5 315 x1.toNat < 3900) ∧ (∀ h6 : ftH, h6 = ft_hs h5 317 (h5 315 x1.toNat).toNat (h5 317 x1.toNat) → ((0 ≤ x1 ∧ x1 < 3900) ∧ ((0 ≤ x1 ∧ x1 < 3900) ∧ ((0 ≤ ft_add (h6 315 x1.toNat) 1 ∧ ft_add (h6 315 x1.toNat) 1 < 3900) ∧ (∀ h7 : ftH, h7 = ft_hs h6 317 (ft_add (h6 315 x1.toNat) 1).toNat (h6 317 x1.toNat) → ft_V k_Mo_laysEntries 18 [some (.inr (.inr 309)), some (.inl (ft_add x1 1))] [] h7 R))))))))) ∧ (h5 315 x1.toNat = 0 → ft_V k_Mo_laysEntries 18 [some (.inr (.inr 309)), some (.inl (ft_add x1 1))] [] h5 R)))))))))))))))))) : ft_V k_Mo_laysEntries 18 [some (.inr (.inr 309)), some (.inl x1)] [] h R := by
  refine fv_iload_n (ft_d o_Mo_laysEntries 12 rfl) rfl rfl ?_
  refine fv_aload_n (ft_d o_Mo_laysEntries 13 rfl) rfl rfl ?_
  refine fv_getI (ft_d o_Mo_laysEntries 14 rfl) rfl fl_Mo_227 sh_309 rfl ?_
  refine fv_icmp_ge (tgt := 135) (ft_d o_Mo_laysEntries 15 rfl) rfl rfl (fun c => ?_) (fun c => ?_)
  · have w := w.1 c
    exact fv_return (ft_d o_Mo_laysEntries 83 rfl) rfl w
  · have w := w.2 c
    refine fv_aload_n (ft_d o_Mo_laysEntries 16 rfl) rfl rfl ?_
    refine fv_getR (b := 316) (ft_d o_Mo_laysEntries 17 rfl) rfl fl_Mo_32 sh_309 rfl ly_309_8 ?_
    refine fv_iload_n (ft_d o_Mo_laysEntries 18 rfl) rfl rfl ?_
    refine fv_iald (ft_d o_Mo_laysEntries 19 rfl) rfl sh_316 w.1 ?_
    have w := w.2
    refine fv_aload_n (ft_d o_Mo_laysEntries 20 rfl) rfl rfl ?_
    refine fv_getR (b := 317) (ft_d o_Mo_laysEntries 21 rfl) rfl fl_Mo_35 sh_309 rfl ly_309_9 ?_
    refine fv_iload_n (ft_d o_Mo_laysEntries 22 rfl) rfl rfl ?_
    refine fv_iald (ft_d o_Mo_laysEntries 23 rfl) rfl sh_317 w.1 ?_
    have w := w.2
    refine fv_ishr (ft_d o_Mo_laysEntries 24 rfl) rfl ?_
    refine fv_iconst (ft_d o_Mo_laysEntries 25 rfl) rfl rfl ?_
    refine fv_iand (ft_d o_Mo_laysEntries 26 rfl) rfl ?_
    refine fv_if_ne (tgt := 81) (ft_d o_Mo_laysEntries 27 rfl) rfl rfl (fun c => ?_) (fun c => ?_)
    · have w := w.1 c
      refine fv_aload_n (ft_d o_Mo_laysEntries 51 rfl) rfl rfl ?_
      refine fv_getR (b := 315) (ft_d o_Mo_laysEntries 52 rfl) rfl fl_Mo_29 sh_309 rfl ly_309_7 ?_
      refine fv_iload_n (ft_d o_Mo_laysEntries 53 rfl) rfl rfl ?_
      refine fv_iald (ft_d o_Mo_laysEntries 54 rfl) rfl sh_315 w.1 ?_
      have w := w.2
      refine fv_if_ne (tgt := 93) (ft_d o_Mo_laysEntries 55 rfl) rfl rfl (fun c => ?_) (fun c => ?_)
      · have w := w.1 c
        refine fv_aload_n (ft_d o_Mo_laysEntries 57 rfl) rfl rfl ?_
        refine fv_getR (b := 317) (ft_d o_Mo_laysEntries 58 rfl) rfl fl_Mo_35 sh_309 rfl ly_309_9 ?_
        refine fv_aload_n (ft_d o_Mo_laysEntries 59 rfl) rfl rfl ?_
        refine fv_getR (b := 315) (ft_d o_Mo_laysEntries 60 rfl) rfl fl_Mo_29 sh_309 rfl ly_309_7 ?_
        refine fv_iload_n (ft_d o_Mo_laysEntries 61 rfl) rfl rfl ?_
        refine fv_iald (ft_d o_Mo_laysEntries 62 rfl) rfl sh_315 w.1 ?_
        have w := w.2
        refine fv_aload_n (ft_d o_Mo_laysEntries 63 rfl) rfl rfl ?_
        refine fv_getR (b := 317) (ft_d o_Mo_laysEntries 64 rfl) rfl fl_Mo_35 sh_309 rfl ly_309_9 ?_
        refine fv_iload_n (ft_d o_Mo_laysEntries 65 rfl) rfl rfl ?_
        refine fv_iald (ft_d o_Mo_laysEntries 66 rfl) rfl sh_317 w.1 ?_
        have w := w.2
        refine fv_iast (ft_d o_Mo_laysEntries 67 rfl) rfl sh_317 w.1 ?_
        have w := w.2
        generalize eh1 : ft_hs h 317 (h 315 x1.toNat).toNat (h 317 x1.toNat) = h1
        have w := w h1 eh1.symm
        refine fv_aload_n (ft_d o_Mo_laysEntries 68 rfl) rfl rfl ?_
        refine fv_getR (b := 317) (ft_d o_Mo_laysEntries 69 rfl) rfl fl_Mo_35 sh_309 rfl ly_309_9 ?_
        refine fv_aload_n (ft_d o_Mo_laysEntries 70 rfl) rfl rfl ?_
        refine fv_getR (b := 315) (ft_d o_Mo_laysEntries 71 rfl) rfl fl_Mo_29 sh_309 rfl ly_309_7 ?_
        refine fv_iload_n (ft_d o_Mo_laysEntries 72 rfl) rfl rfl ?_
        refine fv_iald (ft_d o_Mo_laysEntries 73 rfl) rfl sh_315 w.1 ?_
        have w := w.2
        refine fv_iconst (ft_d o_Mo_laysEntries 74 rfl) rfl rfl ?_
        refine fv_iadd (ft_d o_Mo_laysEntries 75 rfl) rfl ?_
        refine fv_aload_n (ft_d o_Mo_laysEntries 76 rfl) rfl rfl ?_
        refine fv_getR (b := 317) (ft_d o_Mo_laysEntries 77 rfl) rfl fl_Mo_35 sh_309 rfl ly_309_9 ?_
        refine fv_iload_n (ft_d o_Mo_laysEntries 78 rfl) rfl rfl ?_
        refine fv_iald (ft_d o_Mo_laysEntries 79 rfl) rfl sh_317 w.1 ?_
        have w := w.2
        refine fv_iast (ft_d o_Mo_laysEntries 80 rfl) rfl sh_317 w.1 ?_
        have w := w.2
        generalize eh2 : ft_hs h1 317 (ft_add (h1 315 x1.toNat) 1).toNat (h1 317 x1.toNat) = h2
        have w := w h2 eh2.symm
        refine fv_iinc (L' := [some (.inr (.inr 309)), some (.inl (ft_add x1 1))]) (ft_d o_Mo_laysEntries 81 rfl) rfl rfl (Nat.le_of_ble_eq_true rfl) rfl ?_
        refine fv_goto (pc' := 18) (ft_d o_Mo_laysEntries 82 rfl) rfl ?_
        exact w
      · have w := w.2 c
        refine fv_goto (pc' := 129) (ft_d o_Mo_laysEntries 56 rfl) rfl ?_
        refine fv_iinc (L' := [some (.inr (.inr 309)), some (.inl (ft_add x1 1))]) (ft_d o_Mo_laysEntries 81 rfl) rfl rfl (Nat.le_of_ble_eq_true rfl) rfl ?_
        refine fv_goto (pc' := 18) (ft_d o_Mo_laysEntries 82 rfl) rfl ?_
        exact w
    · have w := w.2 c
      refine fv_aload_n (ft_d o_Mo_laysEntries 28 rfl) rfl rfl ?_
      refine fv_getR (b := 317) (ft_d o_Mo_laysEntries 29 rfl) rfl fl_Mo_35 sh_309 rfl ly_309_9 ?_
      refine fv_iload_n (ft_d o_Mo_laysEntries 30 rfl) rfl rfl ?_
      refine fv_aload_n (ft_d o_Mo_laysEntries 31 rfl) rfl rfl ?_
      refine fv_getR (b := 316) (ft_d o_Mo_laysEntries 32 rfl) rfl fl_Mo_32 sh_309 rfl ly_309_8 ?_
      refine fv_iload_n (ft_d o_Mo_laysEntries 33 rfl) rfl rfl ?_
      refine fv_iald (ft_d o_Mo_laysEntries 34 rfl) rfl sh_316 w.1 ?_
      have w := w.2
      obtain ⟨R1, c2, w⟩ := w
      refine fv_calli (st := [.inl x1, .inr (.inr 317)]) (Or.inl rfl) rfl (ft_mm (pre := [.inl (h 316 x1.toNat)]) rfl) (ft_rnS (K' := k_Mo_least) (As := [.inl (h 316 x1.toNat)]) (ft_d o_Mo_laysEntries 35 rfl) ml_Mo_242 lz_Mo_least rfl lw_Mo_least ⟨rfl, rfl, Nat.le_of_ble_eq_true rfl, Nat.le_of_ble_eq_true rfl⟩ rfl rfl (Nat.le_of_ble_eq_true rfl) c2) (fun z3 h3 hz hw => ?_)
      have w := w z3 h3 hz hw
      refine fv_iast (ft_d o_Mo_laysEntries 36 rfl) rfl sh_317 w.1 ?_
      have w := w.2
      generalize eh4 : ft_hs h3 317 x1.toNat z3 = h4
      have w := w h4 eh4.symm
      refine fv_aload_n (ft_d o_Mo_laysEntries 37 rfl) rfl rfl ?_
      refine fv_aload_n (ft_d o_Mo_laysEntries 38 rfl) rfl rfl ?_
      refine fv_getR (b := 313) (ft_d o_Mo_laysEntries 39 rfl) rfl fl_Mo_23 sh_309 rfl ly_309_5 ?_
      refine fv_iload_n (ft_d o_Mo_laysEntries 40 rfl) rfl rfl ?_
      refine fv_iald (ft_d o_Mo_laysEntries 41 rfl) rfl sh_313 w.1 ?_
      have w := w.2
      refine fv_aload_n (ft_d o_Mo_laysEntries 42 rfl) rfl rfl ?_
      refine fv_getR (b := 314) (ft_d o_Mo_laysEntries 43 rfl) rfl fl_Mo_26 sh_309 rfl ly_309_6 ?_
      refine fv_iload_n (ft_d o_Mo_laysEntries 44 rfl) rfl rfl ?_
      refine fv_iald (ft_d o_Mo_laysEntries 45 rfl) rfl sh_314 w.1 ?_
      have w := w.2
      refine fv_aload_n (ft_d o_Mo_laysEntries 46 rfl) rfl rfl ?_
      refine fv_getR (b := 317) (ft_d o_Mo_laysEntries 47 rfl) rfl fl_Mo_35 sh_309 rfl ly_309_9 ?_
      refine fv_iload_n (ft_d o_Mo_laysEntries 48 rfl) rfl rfl ?_
      refine fv_iald (ft_d o_Mo_laysEntries 49 rfl) rfl sh_317 w.1 ?_
      have w := w.2
      obtain ⟨R4, c5, w⟩ := w
      refine fv_callv (st := []) rfl rfl (ft_mm (pre := [.inl (h4 317 x1.toNat), .inl (h4 314 x1.toNat), .inl (h4 313 x1.toNat), .inr (.inr 309)]) rfl) (ft_rnV (K' := k_Mo_addsEntry) (As := [.inl (h4 313 x1.toNat), .inl (h4 314 x1.toNat), .inl (h4 317 x1.toNat)]) (ft_d o_Mo_laysEntries 50 rfl) ml_Mo_245 li_Mo_addsEntry.1 li_Mo_addsEntry.2 lw_Mo_addsEntry ⟨rfl, rfl, Nat.le_of_ble_eq_true rfl, Nat.le_of_ble_eq_true rfl⟩ sh_309 rfl rfl rfl rfl (Nat.le_of_ble_eq_true rfl) c5) (fun h5 hw => ?_)
      have w := w h5 hw
      refine fv_aload_n (ft_d o_Mo_laysEntries 51 rfl) rfl rfl ?_
      refine fv_getR (b := 315) (ft_d o_Mo_laysEntries 52 rfl) rfl fl_Mo_29 sh_309 rfl ly_309_7 ?_
      refine fv_iload_n (ft_d o_Mo_laysEntries 53 rfl) rfl rfl ?_
      refine fv_iald (ft_d o_Mo_laysEntries 54 rfl) rfl sh_315 w.1 ?_
      have w := w.2
      refine fv_if_ne (tgt := 93) (ft_d o_Mo_laysEntries 55 rfl) rfl rfl (fun c => ?_) (fun c => ?_)
      · have w := w.1 c
        refine fv_aload_n (ft_d o_Mo_laysEntries 57 rfl) rfl rfl ?_
        refine fv_getR (b := 317) (ft_d o_Mo_laysEntries 58 rfl) rfl fl_Mo_35 sh_309 rfl ly_309_9 ?_
        refine fv_aload_n (ft_d o_Mo_laysEntries 59 rfl) rfl rfl ?_
        refine fv_getR (b := 315) (ft_d o_Mo_laysEntries 60 rfl) rfl fl_Mo_29 sh_309 rfl ly_309_7 ?_
        refine fv_iload_n (ft_d o_Mo_laysEntries 61 rfl) rfl rfl ?_
        refine fv_iald (ft_d o_Mo_laysEntries 62 rfl) rfl sh_315 w.1 ?_
        have w := w.2
        refine fv_aload_n (ft_d o_Mo_laysEntries 63 rfl) rfl rfl ?_
        refine fv_getR (b := 317) (ft_d o_Mo_laysEntries 64 rfl) rfl fl_Mo_35 sh_309 rfl ly_309_9 ?_
        refine fv_iload_n (ft_d o_Mo_laysEntries 65 rfl) rfl rfl ?_
        refine fv_iald (ft_d o_Mo_laysEntries 66 rfl) rfl sh_317 w.1 ?_
        have w := w.2
        refine fv_iast (ft_d o_Mo_laysEntries 67 rfl) rfl sh_317 w.1 ?_
        have w := w.2
        generalize eh6 : ft_hs h5 317 (h5 315 x1.toNat).toNat (h5 317 x1.toNat) = h6
        have w := w h6 eh6.symm
        refine fv_aload_n (ft_d o_Mo_laysEntries 68 rfl) rfl rfl ?_
        refine fv_getR (b := 317) (ft_d o_Mo_laysEntries 69 rfl) rfl fl_Mo_35 sh_309 rfl ly_309_9 ?_
        refine fv_aload_n (ft_d o_Mo_laysEntries 70 rfl) rfl rfl ?_
        refine fv_getR (b := 315) (ft_d o_Mo_laysEntries 71 rfl) rfl fl_Mo_29 sh_309 rfl ly_309_7 ?_
        refine fv_iload_n (ft_d o_Mo_laysEntries 72 rfl) rfl rfl ?_
        refine fv_iald (ft_d o_Mo_laysEntries 73 rfl) rfl sh_315 w.1 ?_
        have w := w.2
        refine fv_iconst (ft_d o_Mo_laysEntries 74 rfl) rfl rfl ?_
        refine fv_iadd (ft_d o_Mo_laysEntries 75 rfl) rfl ?_
        refine fv_aload_n (ft_d o_Mo_laysEntries 76 rfl) rfl rfl ?_
        refine fv_getR (b := 317) (ft_d o_Mo_laysEntries 77 rfl) rfl fl_Mo_35 sh_309 rfl ly_309_9 ?_
        refine fv_iload_n (ft_d o_Mo_laysEntries 78 rfl) rfl rfl ?_
        refine fv_iald (ft_d o_Mo_laysEntries 79 rfl) rfl sh_317 w.1 ?_
        have w := w.2
        refine fv_iast (ft_d o_Mo_laysEntries 80 rfl) rfl sh_317 w.1 ?_
        have w := w.2
        generalize eh7 : ft_hs h6 317 (ft_add (h6 315 x1.toNat) 1).toNat (h6 317 x1.toNat) = h7
        have w := w h7 eh7.symm
        refine fv_iinc (L' := [some (.inr (.inr 309)), some (.inl (ft_add x1 1))]) (ft_d o_Mo_laysEntries 81 rfl) rfl rfl (Nat.le_of_ble_eq_true rfl) rfl ?_
        refine fv_goto (pc' := 18) (ft_d o_Mo_laysEntries 82 rfl) rfl ?_
        exact w
      · have w := w.2 c
        refine fv_goto (pc' := 129) (ft_d o_Mo_laysEntries 56 rfl) rfl ?_
        refine fv_iinc (L' := [some (.inr (.inr 309)), some (.inl (ft_add x1 1))]) (ft_d o_Mo_laysEntries 81 rfl) rfl rfl (Nat.le_of_ble_eq_true rfl) rfl ?_
        refine fv_goto (pc' := 18) (ft_d o_Mo_laysEntries 82 rfl) rfl ?_
        exact w
set_option maxRecDepth 20000 in
theorem b_Mo_entryFor_0 {x1 : Int} {x2 : Int} {h : ftH} {R : Option ftV → ftH → Prop} 
    (w : (∀ n1 : Int, n1 = (-2) → ft_V k_Mo_entryFor 6 [some (.inr (.inr 309)), some (.inl x1), some (.inl x2), some (.inl n1), some (.inl 0)] [] h R)) : ft_V k_Mo_entryFor 0 [some (.inr (.inr 309)), some (.inl x1), some (.inl x2), none, none] [] h R := by
  refine fv_bipush (ft_d o_Mo_entryFor 0 rfl) rfl rfl ?_
  generalize en1 : (-2) = n1
  have w := w n1 en1.symm
  refine fv_istore_n (L' := [some (.inr (.inr 309)), some (.inl x1), some (.inl x2), some (.inl n1), none]) (ft_d o_Mo_entryFor 1 rfl) rfl (Nat.le_of_ble_eq_true rfl) rfl ?_
  refine fv_iconst (ft_d o_Mo_entryFor 2 rfl) rfl rfl ?_
  refine fv_istore (L' := [some (.inr (.inr 309)), some (.inl x1), some (.inl x2), some (.inl n1), some (.inl 0)]) (ft_d o_Mo_entryFor 3 rfl) rfl (Nat.le_of_ble_eq_true rfl) rfl ?_
  exact w
set_option maxRecDepth 20000 in
theorem b_Mo_entryFor_6 {x1 : Int} {x2 : Int} {x3 : Int} {x4 : Int} {h : ftH} {R : Option ftV → ftH → Prop} 
    (w : ((h 309 14 ≤ x4 → R (some (.inl x3)) h) ∧ (¬ (h 309 14 ≤ x4) → ((0 ≤ x4 ∧ x4 < 64) ∧ ((x2 ≤ h 319 x4.toNat → ft_V k_Mo_entryFor 6 [some (.inr (.inr 309)), some (.inl x1), some (.inl x2), some (.inl x3), some (.inl (ft_add x4 1))] [] h R) ∧ (¬ (x2 ≤ h 319 x4.toNat) → ((0 ≤ x4 ∧ x4 < 64) ∧ ((0 ≤ x4 ∧ x4 < 64) ∧ ((0 ≤ (h 319 x4.toNat) ∧ (h 319 x4.toNat) ≤ 32) ∧ ((¬ (pUn (h 318 x4.toNat) / pSz (h 319 x4.toNat) = pUn x1 / pSz (h 319 x4.toNat)) → ft_V k_Mo_entryFor 6 [some (.inr (.inr 309)), some (.inl x1), some (.inl x2), some (.inl x3), some (.inl (ft_add x4 1))] [] h R) ∧ (pUn (h 318 x4.toNat) / pSz (h 319 x4.toNat) = pUn x1 / pSz (h 319 x4.toNat) → ((x3 < 0 → ft_V k_Mo_entryFor 6 [some (.inr (.inr 309)), some (.inl x1), some (.inl x2), some (.inl x4), some (.inl (ft_add x4 1))] [] h R) ∧ (¬ (x3 < 0) → ((0 ≤ x4 ∧ x4 < 64) ∧ ((0 ≤ x3 ∧ x3 < 64) ∧ ((h 319 x4.toNat ≤ h 319 x3.toNat → ft_V k_Mo_entryFor 6 [some (.inr (.inr 309)), some (.inl x1), some (.inl x2), some (.inl x3), some (.inl (ft_add x4 1))] [] h R) ∧ (¬ (h 319 x4.toNat ≤ h 319 x3.toNat) → ft_V k_Mo_entryFor 6 [some (.inr (.inr 309)), some (.inl x1), some (.inl x2), some (.inl x4), some (.inl (ft_add x4 1))] [] h R))))))))))))))))) : ft_V k_Mo_entryFor 6 [some (.inr (.inr 309)), some (.inl x1), some (.inl x2), some (.inl x3), some (.inl x4)] [] h R := by
  refine fv_iload (ft_d o_Mo_entryFor 4 rfl) rfl rfl ?_
  refine fv_aload_n (ft_d o_Mo_entryFor 5 rfl) rfl rfl ?_
  refine fv_getI (ft_d o_Mo_entryFor 6 rfl) rfl fl_Mo_236 sh_309 rfl ?_
  refine fv_icmp_ge (tgt := 76) (ft_d o_Mo_entryFor 7 rfl) rfl rfl (fun c => ?_) (fun c => ?_)
  · have w := w.1 c
    refine fv_iload_n (ft_d o_Mo_entryFor 40 rfl) rfl rfl ?_
    exact fv_ireturn (ft_d o_Mo_entryFor 41 rfl) rfl w
  · have w := w.2 c
    refine fv_aload_n (ft_d o_Mo_entryFor 8 rfl) rfl rfl ?_
    refine fv_getR (b := 319) (ft_d o_Mo_entryFor 9 rfl) rfl fl_Mo_41 sh_309 rfl ly_309_12 ?_
    refine fv_iload (ft_d o_Mo_entryFor 10 rfl) rfl rfl ?_
    refine fv_iald (ft_d o_Mo_entryFor 11 rfl) rfl sh_319 w.1 ?_
    have w := w.2
    refine fv_iload_n (ft_d o_Mo_entryFor 12 rfl) rfl rfl ?_
    refine fv_icmp_ge (tgt := 70) (ft_d o_Mo_entryFor 13 rfl) rfl rfl (fun c => ?_) (fun c => ?_)
    · have w := w.1 c
      refine fv_iinc (L' := [some (.inr (.inr 309)), some (.inl x1), some (.inl x2), some (.inl x3), some (.inl (ft_add x4 1))]) (ft_d o_Mo_entryFor 38 rfl) rfl rfl (Nat.le_of_ble_eq_true rfl) rfl ?_
      refine fv_goto (pc' := 6) (ft_d o_Mo_entryFor 39 rfl) rfl ?_
      exact w
    · have w := w.2 c
      refine fv_aload_n (ft_d o_Mo_entryFor 14 rfl) rfl rfl ?_
      refine fv_getR (b := 318) (ft_d o_Mo_entryFor 15 rfl) rfl fl_Mo_38 sh_309 rfl ly_309_11 ?_
      refine fv_iload (ft_d o_Mo_entryFor 16 rfl) rfl rfl ?_
      refine fv_iald (ft_d o_Mo_entryFor 17 rfl) rfl sh_318 w.1 ?_
      have w := w.2
      refine fv_aload_n (ft_d o_Mo_entryFor 18 rfl) rfl rfl ?_
      refine fv_getR (b := 319) (ft_d o_Mo_entryFor 19 rfl) rfl fl_Mo_41 sh_309 rfl ly_309_12 ?_
      refine fv_iload (ft_d o_Mo_entryFor 20 rfl) rfl rfl ?_
      refine fv_iald (ft_d o_Mo_entryFor 21 rfl) rfl sh_319 w.1 ?_
      have w := w.2
      refine fv_iload_n (ft_d o_Mo_entryFor 22 rfl) rfl rfl ?_
      refine fv_callif (st := []) (z := (if pUn (h 318 x4.toNat) / pSz (h 319 x4.toNat) = pUn x1 / pSz (h 319 x4.toNat) then 1 else 0)) (Or.inr rfl) rfl (ft_mm (pre := [.inl x1, .inl (h 319 x4.toNat), .inl (h 318 x4.toNat)]) rfl) (ft_rnS (K' := k_Mo_contains) (As := [.inl (h 318 x4.toNat), .inl (h 319 x4.toNat), .inl x1]) (ft_d o_Mo_entryFor 23 rfl) ml_Mo_110 lz_Mo_contains rfl lw_Mo_contains ⟨rfl, rfl, Nat.le_of_ble_eq_true rfl, Nat.le_of_ble_eq_true rfl⟩ rfl rfl (Nat.le_of_ble_eq_true rfl) (c_Mo_contains w.1)) ?_
      have w := w.2
      refine fv_if_eq (tgt := 70) (ft_d o_Mo_entryFor 24 rfl) rfl rfl (fun c => ?_) (fun c => ?_)
      · have w := w.1 (ft_if0.mp c)
        refine fv_iinc (L' := [some (.inr (.inr 309)), some (.inl x1), some (.inl x2), some (.inl x3), some (.inl (ft_add x4 1))]) (ft_d o_Mo_entryFor 38 rfl) rfl rfl (Nat.le_of_ble_eq_true rfl) rfl ?_
        refine fv_goto (pc' := 6) (ft_d o_Mo_entryFor 39 rfl) rfl ?_
        exact w
      · have w := w.2 (ft_if1.mp c)
        refine fv_iload_n (ft_d o_Mo_entryFor 25 rfl) rfl rfl ?_
        refine fv_if_lt (tgt := 67) (ft_d o_Mo_entryFor 26 rfl) rfl rfl (fun c => ?_) (fun c => ?_)
        · have w := w.1 c
          refine fv_iload (ft_d o_Mo_entryFor 36 rfl) rfl rfl ?_
          refine fv_istore_n (L' := [some (.inr (.inr 309)), some (.inl x1), some (.inl x2), some (.inl x4), some (.inl x4)]) (ft_d o_Mo_entryFor 37 rfl) rfl (Nat.le_of_ble_eq_true rfl) rfl ?_
          refine fv_iinc (L' := [some (.inr (.inr 309)), some (.inl x1), some (.inl x2), some (.inl x4), some (.inl (ft_add x4 1))]) (ft_d o_Mo_entryFor 38 rfl) rfl rfl (Nat.le_of_ble_eq_true rfl) rfl ?_
          refine fv_goto (pc' := 6) (ft_d o_Mo_entryFor 39 rfl) rfl ?_
          exact w
        · have w := w.2 c
          refine fv_aload_n (ft_d o_Mo_entryFor 27 rfl) rfl rfl ?_
          refine fv_getR (b := 319) (ft_d o_Mo_entryFor 28 rfl) rfl fl_Mo_41 sh_309 rfl ly_309_12 ?_
          refine fv_iload (ft_d o_Mo_entryFor 29 rfl) rfl rfl ?_
          refine fv_iald (ft_d o_Mo_entryFor 30 rfl) rfl sh_319 w.1 ?_
          have w := w.2
          refine fv_aload_n (ft_d o_Mo_entryFor 31 rfl) rfl rfl ?_
          refine fv_getR (b := 319) (ft_d o_Mo_entryFor 32 rfl) rfl fl_Mo_41 sh_309 rfl ly_309_12 ?_
          refine fv_iload_n (ft_d o_Mo_entryFor 33 rfl) rfl rfl ?_
          refine fv_iald (ft_d o_Mo_entryFor 34 rfl) rfl sh_319 w.1 ?_
          have w := w.2
          refine fv_icmp_le (tgt := 70) (ft_d o_Mo_entryFor 35 rfl) rfl rfl (fun c => ?_) (fun c => ?_)
          · have w := w.1 c
            refine fv_iinc (L' := [some (.inr (.inr 309)), some (.inl x1), some (.inl x2), some (.inl x3), some (.inl (ft_add x4 1))]) (ft_d o_Mo_entryFor 38 rfl) rfl rfl (Nat.le_of_ble_eq_true rfl) rfl ?_
            refine fv_goto (pc' := 6) (ft_d o_Mo_entryFor 39 rfl) rfl ?_
            exact w
          · have w := w.2 c
            refine fv_iload (ft_d o_Mo_entryFor 36 rfl) rfl rfl ?_
            refine fv_istore_n (L' := [some (.inr (.inr 309)), some (.inl x1), some (.inl x2), some (.inl x4), some (.inl x4)]) (ft_d o_Mo_entryFor 37 rfl) rfl (Nat.le_of_ble_eq_true rfl) rfl ?_
            refine fv_iinc (L' := [some (.inr (.inr 309)), some (.inl x1), some (.inl x2), some (.inl x4), some (.inl (ft_add x4 1))]) (ft_d o_Mo_entryFor 38 rfl) rfl rfl (Nat.le_of_ble_eq_true rfl) rfl ?_
            refine fv_goto (pc' := 6) (ft_d o_Mo_entryFor 39 rfl) rfl ?_
            exact w
set_option maxRecDepth 20000 in
theorem b_Mo_startsLost_0  {h : ftH} {R : Option ftV → ftH → Prop} 
    (w : ft_V k_Mo_startsLost 2 [some (.inr (.inr 309)), some (.inl 0), none] [] h R) : ft_V k_Mo_startsLost 0 [some (.inr (.inr 309)), none, none] [] h R := by
  refine fv_iconst (ft_d o_Mo_startsLost 0 rfl) rfl rfl ?_
  refine fv_istore_n (L' := [some (.inr (.inr 309)), some (.inl 0), none]) (ft_d o_Mo_startsLost 1 rfl) rfl (Nat.le_of_ble_eq_true rfl) rfl ?_
  exact w
set_option maxRecDepth 20000 in
theorem b_Mo_startsLost_2 {x1 : Int} {h : ftH} {R : Option ftV → ftH → Prop} 
    (w : ((64 < x1 → R none h) ∧ (¬ (64 < x1) → ft_V k_Mo_startsLost 10 [some (.inr (.inr 309)), some (.inl x1), some (.inl 0)] [] h R))) : ft_V k_Mo_startsLost 2 [some (.inr (.inr 309)), some (.inl x1), none] [] h R := by
  refine fv_iload_n (ft_d o_Mo_startsLost 2 rfl) rfl rfl ?_
  refine fv_bipush (ft_d o_Mo_startsLost 3 rfl) rfl rfl ?_
  refine fv_icmp_gt (tgt := 131) (ft_d o_Mo_startsLost 4 rfl) rfl rfl (fun c => ?_) (fun c => ?_)
  · have w := w.1 c
    exact fv_return (ft_d o_Mo_startsLost 76 rfl) rfl w
  · have w := w.2 c
    refine fv_iconst (ft_d o_Mo_startsLost 5 rfl) rfl rfl ?_
    refine fv_istore_n (L' := [some (.inr (.inr 309)), some (.inl x1), some (.inl 0)]) (ft_d o_Mo_startsLost 6 rfl) rfl (Nat.le_of_ble_eq_true rfl) rfl ?_
    exact w
set_option maxRecDepth 20000 in
theorem b_Mo_startsLost_10 {x1 : Int} {x2 : Int} {h : ftH} {R : Option ftV → ftH → Prop} 
    (w : ((61 ≤ x2 → ((¬ (x1 = 64) → ft_V k_Mo_startsLost 66 [some (.inr (.inr 309)), some (.inl x1), none] [] h R) ∧ (x1 = 64 → (((0 ≤ x1 ∧ x1 ≤ 64) ∧ (0 ≤ (0 : Int) ∧ (0 : Int) ≤ 1) ∧ (0 ≤ (0 : Int) ∧ (0 : Int) ≤ 60)) ∧ ((0 ≤ 61 * (2 * x1 + (0 : Int)) + (0 : Int) ∧ 61 * (2 * x1 + (0 : Int)) + (0 : Int) < 7930) ∧ (∀ h1 : ftH, h1 = ft_hs h 323 (61 * (2 * x1 + (0 : Int)) + (0 : Int)).toNat 0 → ft_V k_Mo_startsLost 66 [some (.inr (.inr 309)), some (.inl x1), none] [] h1 R)))))) ∧ (¬ (61 ≤ x2) → (((0 ≤ x1 ∧ x1 ≤ 64) ∧ (0 ≤ (0 : Int) ∧ (0 : Int) ≤ 1) ∧ (0 ≤ x2 ∧ x2 ≤ 60)) ∧ ((0 ≤ 61 * (2 * x1 + (0 : Int)) + x2 ∧ 61 * (2 * x1 + (0 : Int)) + x2 < 7930) ∧ (∀ h2 : ftH, h2 = ft_hs h 323 (61 * (2 * x1 + (0 : Int)) + x2).toNat 1000000000 → (((0 ≤ x1 ∧ x1 ≤ 64) ∧ (0 ≤ (1 : Int) ∧ (1 : Int) ≤ 1) ∧ (0 ≤ x2 ∧ x2 ≤ 60)) ∧ ((0 ≤ 61 * (2 * x1 + (1 : Int)) + x2 ∧ 61 * (2 * x1 + (1 : Int)) + x2 < 7930) ∧ (∀ h3 : ftH, h3 = ft_hs h2 323 (61 * (2 * x1 + (1 : Int)) + x2).toNat 1000000000 → ft_V k_Mo_startsLost 10 [some (.inr (.inr 309)), some (.inl x1), some (.inl (ft_add x2 1))] [] h3 R))))))))) : ft_V k_Mo_startsLost 10 [some (.inr (.inr 309)), some (.inl x1), some (.inl x2)] [] h R := by
  refine fv_iload_n (ft_d o_Mo_startsLost 7 rfl) rfl rfl ?_
  refine fv_bipush (ft_d o_Mo_startsLost 8 rfl) rfl rfl ?_
  refine fv_icmp_ge (tgt := 48) (ft_d o_Mo_startsLost 9 rfl) rfl rfl (fun c => ?_) (fun c => ?_)
  · have w := w.1 c
    refine fv_iload_n (ft_d o_Mo_startsLost 28 rfl) rfl rfl ?_
    refine fv_bipush (ft_d o_Mo_startsLost 29 rfl) rfl rfl ?_
    refine fv_icmp_ne (tgt := 66) (ft_d o_Mo_startsLost 30 rfl) rfl rfl (fun c => ?_) (fun c => ?_)
    · have w := w.1 c
      refine fv_mask (M := [true, true, false]) rfl ?_
      exact w
    · have w := w.2 c
      refine fv_aload_n (ft_d o_Mo_startsLost 31 rfl) rfl rfl ?_
      refine fv_getR (b := 323) (ft_d o_Mo_startsLost 32 rfl) rfl fl_Mo_53 sh_309 rfl ly_309_17 ?_
      refine fv_iload_n (ft_d o_Mo_startsLost 33 rfl) rfl rfl ?_
      refine fv_iconst (ft_d o_Mo_startsLost 34 rfl) rfl rfl ?_
      refine fv_iconst (ft_d o_Mo_startsLost 35 rfl) rfl rfl ?_
      refine fv_callif (st := [.inr (.inr 323)]) (z := 61 * (2 * x1 + (0 : Int)) + (0 : Int)) (Or.inl rfl) rfl (ft_mm (pre := [.inl 0, .inl 0, .inl x1]) rfl) (ft_rnS (K' := k_Mo_at) (As := [.inl x1, .inl 0, .inl 0]) (ft_d o_Mo_startsLost 36 rfl) ml_Mo_248 lz_Mo_at rfl lw_Mo_at ⟨rfl, rfl, Nat.le_of_ble_eq_true rfl, Nat.le_of_ble_eq_true rfl⟩ rfl rfl (Nat.le_of_ble_eq_true rfl) (c_Mo_at w.1)) ?_
      have w := w.2
      refine fv_iconst (ft_d o_Mo_startsLost 37 rfl) rfl rfl ?_
      refine fv_iast (ft_d o_Mo_startsLost 38 rfl) rfl sh_323 w.1 ?_
      have w := w.2
      generalize eh1 : ft_hs h 323 (61 * (2 * x1 + (0 : Int)) + (0 : Int)).toNat 0 = h1
      have w := w h1 eh1.symm
      refine fv_mask (M := [true, true, false]) rfl ?_
      exact w
  · have w := w.2 c
    refine fv_aload_n (ft_d o_Mo_startsLost 10 rfl) rfl rfl ?_
    refine fv_getR (b := 323) (ft_d o_Mo_startsLost 11 rfl) rfl fl_Mo_53 sh_309 rfl ly_309_17 ?_
    refine fv_iload_n (ft_d o_Mo_startsLost 12 rfl) rfl rfl ?_
    refine fv_iconst (ft_d o_Mo_startsLost 13 rfl) rfl rfl ?_
    refine fv_iload_n (ft_d o_Mo_startsLost 14 rfl) rfl rfl ?_
    refine fv_callif (st := [.inr (.inr 323)]) (z := 61 * (2 * x1 + (0 : Int)) + x2) (Or.inl rfl) rfl (ft_mm (pre := [.inl x2, .inl 0, .inl x1]) rfl) (ft_rnS (K' := k_Mo_at) (As := [.inl x1, .inl 0, .inl x2]) (ft_d o_Mo_startsLost 15 rfl) ml_Mo_248 lz_Mo_at rfl lw_Mo_at ⟨rfl, rfl, Nat.le_of_ble_eq_true rfl, Nat.le_of_ble_eq_true rfl⟩ rfl rfl (Nat.le_of_ble_eq_true rfl) (c_Mo_at w.1)) ?_
    have w := w.2
    refine fv_ldc (v := 1000000000) (z := 1000000000) (ft_d o_Mo_startsLost 16 rfl) rfl (ft_gt 1426 (by decide +kernel) rfl) rfl ?_
    refine fv_iast (ft_d o_Mo_startsLost 17 rfl) rfl sh_323 w.1 ?_
    have w := w.2
    generalize eh2 : ft_hs h 323 (61 * (2 * x1 + (0 : Int)) + x2).toNat 1000000000 = h2
    have w := w h2 eh2.symm
    refine fv_aload_n (ft_d o_Mo_startsLost 18 rfl) rfl rfl ?_
    refine fv_getR (b := 323) (ft_d o_Mo_startsLost 19 rfl) rfl fl_Mo_53 sh_309 rfl ly_309_17 ?_
    refine fv_iload_n (ft_d o_Mo_startsLost 20 rfl) rfl rfl ?_
    refine fv_iconst (ft_d o_Mo_startsLost 21 rfl) rfl rfl ?_
    refine fv_iload_n (ft_d o_Mo_startsLost 22 rfl) rfl rfl ?_
    refine fv_callif (st := [.inr (.inr 323)]) (z := 61 * (2 * x1 + (1 : Int)) + x2) (Or.inl rfl) rfl (ft_mm (pre := [.inl x2, .inl 1, .inl x1]) rfl) (ft_rnS (K' := k_Mo_at) (As := [.inl x1, .inl 1, .inl x2]) (ft_d o_Mo_startsLost 23 rfl) ml_Mo_248 lz_Mo_at rfl lw_Mo_at ⟨rfl, rfl, Nat.le_of_ble_eq_true rfl, Nat.le_of_ble_eq_true rfl⟩ rfl rfl (Nat.le_of_ble_eq_true rfl) (c_Mo_at w.1)) ?_
    have w := w.2
    refine fv_ldc (v := 1000000000) (z := 1000000000) (ft_d o_Mo_startsLost 24 rfl) rfl (ft_gt 1426 (by decide +kernel) rfl) rfl ?_
    refine fv_iast (ft_d o_Mo_startsLost 25 rfl) rfl sh_323 w.1 ?_
    have w := w.2
    generalize eh3 : ft_hs h2 323 (61 * (2 * x1 + (1 : Int)) + x2).toNat 1000000000 = h3
    have w := w h3 eh3.symm
    refine fv_iinc (L' := [some (.inr (.inr 309)), some (.inl x1), some (.inl (ft_add x2 1))]) (ft_d o_Mo_startsLost 26 rfl) rfl rfl (Nat.le_of_ble_eq_true rfl) rfl ?_
    refine fv_goto (pc' := 10) (ft_d o_Mo_startsLost 27 rfl) rfl ?_
    exact w
set_option maxRecDepth 20000 in
theorem b_Mo_startsLost_66 {x1 : Int} {h : ftH} {R : Option ftV → ftH → Prop} 
    (w : ((x1 < h 309 14 → ((0 ≤ x1 ∧ x1 < 64) ∧ ((h 325 x1.toNat = 1 → ft_V k_Mo_startsLost 104 [some (.inr (.inr 309)), some (.inl x1), none] [] h R) ∧ (¬ (h 325 x1.toNat = 1) → (((0 ≤ x1 ∧ x1 ≤ 64) ∧ (0 ≤ (0 : Int) ∧ (0 : Int) ≤ 1) ∧ (0 ≤ (0 : Int) ∧ (0 : Int) ≤ 60)) ∧ ((0 ≤ x1 ∧ x1 < 64) ∧ ((0 ≤ 61 * (2 * x1 + (0 : Int)) + (0 : Int) ∧ 61 * (2 * x1 + (0 : Int)) + (0 : Int) < 7930) ∧ (∀ h1 : ftH, h1 = ft_hs h 323 (61 * (2 * x1 + (0 : Int)) + (0 : Int)).toNat (h 322 x1.toNat) → ft_V k_Mo_startsLost 104 [some (.inr (.inr 309)), some (.inl x1), none] [] h1 R)))))))) ∧ (¬ (x1 < h 309 14) → ft_V k_Mo_startsLost 125 [some (.inr (.inr 309)), some (.inl x1), none] [] h R))) : ft_V k_Mo_startsLost 66 [some (.inr (.inr 309)), some (.inl x1), none] [] h R := by
  refine fv_iload_n (ft_d o_Mo_startsLost 39 rfl) rfl rfl ?_
  refine fv_aload_n (ft_d o_Mo_startsLost 40 rfl) rfl rfl ?_
  refine fv_getI (ft_d o_Mo_startsLost 41 rfl) rfl fl_Mo_236 sh_309 rfl ?_
  refine fv_icmp_lt (tgt := 77) (ft_d o_Mo_startsLost 42 rfl) rfl rfl (fun c => ?_) (fun c => ?_)
  · have w := w.1 c
    refine fv_aload_n (ft_d o_Mo_startsLost 44 rfl) rfl rfl ?_
    refine fv_getR (b := 325) (ft_d o_Mo_startsLost 45 rfl) rfl fl_Mo_59 sh_309 rfl ly_309_19 ?_
    refine fv_iload_n (ft_d o_Mo_startsLost 46 rfl) rfl rfl ?_
    refine fv_iald (ft_d o_Mo_startsLost 47 rfl) rfl sh_325 w.1 ?_
    have w := w.2
    refine fv_iconst (ft_d o_Mo_startsLost 48 rfl) rfl rfl ?_
    refine fv_icmp_eq (tgt := 104) (ft_d o_Mo_startsLost 49 rfl) rfl rfl (fun c => ?_) (fun c => ?_)
    · have w := w.1 c
      exact w
    · have w := w.2 c
      refine fv_aload_n (ft_d o_Mo_startsLost 50 rfl) rfl rfl ?_
      refine fv_getR (b := 323) (ft_d o_Mo_startsLost 51 rfl) rfl fl_Mo_53 sh_309 rfl ly_309_17 ?_
      refine fv_iload_n (ft_d o_Mo_startsLost 52 rfl) rfl rfl ?_
      refine fv_iconst (ft_d o_Mo_startsLost 53 rfl) rfl rfl ?_
      refine fv_iconst (ft_d o_Mo_startsLost 54 rfl) rfl rfl ?_
      refine fv_callif (st := [.inr (.inr 323)]) (z := 61 * (2 * x1 + (0 : Int)) + (0 : Int)) (Or.inl rfl) rfl (ft_mm (pre := [.inl 0, .inl 0, .inl x1]) rfl) (ft_rnS (K' := k_Mo_at) (As := [.inl x1, .inl 0, .inl 0]) (ft_d o_Mo_startsLost 55 rfl) ml_Mo_248 lz_Mo_at rfl lw_Mo_at ⟨rfl, rfl, Nat.le_of_ble_eq_true rfl, Nat.le_of_ble_eq_true rfl⟩ rfl rfl (Nat.le_of_ble_eq_true rfl) (c_Mo_at w.1)) ?_
      have w := w.2
      refine fv_aload_n (ft_d o_Mo_startsLost 56 rfl) rfl rfl ?_
      refine fv_getR (b := 322) (ft_d o_Mo_startsLost 57 rfl) rfl fl_Mo_50 sh_309 rfl ly_309_16 ?_
      refine fv_iload_n (ft_d o_Mo_startsLost 58 rfl) rfl rfl ?_
      refine fv_iald (ft_d o_Mo_startsLost 59 rfl) rfl sh_322 w.1 ?_
      have w := w.2
      refine fv_iast (ft_d o_Mo_startsLost 60 rfl) rfl sh_323 w.1 ?_
      have w := w.2
      generalize eh1 : ft_hs h 323 (61 * (2 * x1 + (0 : Int)) + (0 : Int)).toNat (h 322 x1.toNat) = h1
      have w := w h1 eh1.symm
      exact w
  · have w := w.2 c
    refine fv_goto (pc' := 125) (ft_d o_Mo_startsLost 43 rfl) rfl ?_
    exact w
set_option maxRecDepth 20000 in
theorem b_Mo_startsLost_104 {x1 : Int} {h : ftH} {R : Option ftV → ftH → Prop} 
    (w : ((0 ≤ x1 ∧ x1 < 64) ∧ ((h 325 x1.toNat = 0 → ft_V k_Mo_startsLost 125 [some (.inr (.inr 309)), some (.inl x1), none] [] h R) ∧ (¬ (h 325 x1.toNat = 0) → (((0 ≤ x1 ∧ x1 ≤ 64) ∧ (0 ≤ (1 : Int) ∧ (1 : Int) ≤ 1) ∧ (0 ≤ (1 : Int) ∧ (1 : Int) ≤ 60)) ∧ ((0 ≤ 61 * (2 * x1 + (1 : Int)) + (1 : Int) ∧ 61 * (2 * x1 + (1 : Int)) + (1 : Int) < 7930) ∧ (∀ h1 : ftH, h1 = ft_hs h 323 (61 * (2 * x1 + (1 : Int)) + (1 : Int)).toNat 0 → ft_V k_Mo_startsLost 125 [some (.inr (.inr 309)), some (.inl x1), none] [] h1 R))))))) : ft_V k_Mo_startsLost 104 [some (.inr (.inr 309)), some (.inl x1), none] [] h R := by
  refine fv_aload_n (ft_d o_Mo_startsLost 61 rfl) rfl rfl ?_
  refine fv_getR (b := 325) (ft_d o_Mo_startsLost 62 rfl) rfl fl_Mo_59 sh_309 rfl ly_309_19 ?_
  refine fv_iload_n (ft_d o_Mo_startsLost 63 rfl) rfl rfl ?_
  refine fv_iald (ft_d o_Mo_startsLost 64 rfl) rfl sh_325 w.1 ?_
  have w := w.2
  refine fv_if_eq (tgt := 125) (ft_d o_Mo_startsLost 65 rfl) rfl rfl (fun c => ?_) (fun c => ?_)
  · have w := w.1 c
    exact w
  · have w := w.2 c
    refine fv_aload_n (ft_d o_Mo_startsLost 66 rfl) rfl rfl ?_
    refine fv_getR (b := 323) (ft_d o_Mo_startsLost 67 rfl) rfl fl_Mo_53 sh_309 rfl ly_309_17 ?_
    refine fv_iload_n (ft_d o_Mo_startsLost 68 rfl) rfl rfl ?_
    refine fv_iconst (ft_d o_Mo_startsLost 69 rfl) rfl rfl ?_
    refine fv_iconst (ft_d o_Mo_startsLost 70 rfl) rfl rfl ?_
    refine fv_callif (st := [.inr (.inr 323)]) (z := 61 * (2 * x1 + (1 : Int)) + (1 : Int)) (Or.inl rfl) rfl (ft_mm (pre := [.inl 1, .inl 1, .inl x1]) rfl) (ft_rnS (K' := k_Mo_at) (As := [.inl x1, .inl 1, .inl 1]) (ft_d o_Mo_startsLost 71 rfl) ml_Mo_248 lz_Mo_at rfl lw_Mo_at ⟨rfl, rfl, Nat.le_of_ble_eq_true rfl, Nat.le_of_ble_eq_true rfl⟩ rfl rfl (Nat.le_of_ble_eq_true rfl) (c_Mo_at w.1)) ?_
    have w := w.2
    refine fv_iconst (ft_d o_Mo_startsLost 72 rfl) rfl rfl ?_
    refine fv_iast (ft_d o_Mo_startsLost 73 rfl) rfl sh_323 w.1 ?_
    have w := w.2
    generalize eh1 : ft_hs h 323 (61 * (2 * x1 + (1 : Int)) + (1 : Int)).toNat 0 = h1
    have w := w h1 eh1.symm
    exact w
set_option maxRecDepth 20000 in
theorem b_Mo_startsLost_125 {x1 : Int} {h : ftH} {R : Option ftV → ftH → Prop} 
    (w : ft_V k_Mo_startsLost 2 [some (.inr (.inr 309)), some (.inl (ft_add x1 1)), none] [] h R) : ft_V k_Mo_startsLost 125 [some (.inr (.inr 309)), some (.inl x1), none] [] h R := by
  refine fv_iinc (L' := [some (.inr (.inr 309)), some (.inl (ft_add x1 1)), none]) (ft_d o_Mo_startsLost 74 rfl) rfl rfl (Nat.le_of_ble_eq_true rfl) rfl ?_
  refine fv_goto (pc' := 2) (ft_d o_Mo_startsLost 75 rfl) rfl ?_
  exact w
set_option maxRecDepth 20000 in
theorem b_Mo_under_0 {x1 : Int} {x2 : Int} {x3 : Int} {h : ftH} {R : Option ftV → ftH → Prop} 
    (w : (((0 ≤ x1 ∧ x1 ≤ 64) ∧ (0 ≤ (1 : Int) ∧ (1 : Int) ≤ 1) ∧ (0 ≤ x3 ∧ x3 ≤ 60)) ∧ ((0 ≤ 61 * (2 * x1 + (1 : Int)) + x3 ∧ 61 * (2 * x1 + (1 : Int)) + x3 < 7930) ∧ (∀ n3 : Int, n3 = h 323 (61 * (2 * x1 + (1 : Int)) + x3).toNat → (∀ n4 : Int, n4 = ft_sub x3 x2 → ((0 ≤ n4 → (((0 ≤ x1 ∧ x1 ≤ 64) ∧ (0 ≤ (0 : Int) ∧ (0 : Int) ≤ 1) ∧ (0 ≤ n4 ∧ n4 ≤ 60)) ∧ ((0 ≤ 61 * (2 * x1 + (0 : Int)) + n4 ∧ 61 * (2 * x1 + (0 : Int)) + n4 < 7930) ∧ (∀ n7 : Int, n7 = h 323 (61 * (2 * x1 + (0 : Int)) + n4).toNat → ((n7 ≤ n3 → R (some (.inl n7)) h) ∧ (¬ (n7 ≤ n3) → R (some (.inl n3)) h)))))) ∧ (¬ (0 ≤ n4) → ((1000000000 ≤ n3 → R (some (.inl 1000000000)) h) ∧ (¬ (1000000000 ≤ n3) → R (some (.inl n3)) h))))))))) : ft_V k_Mo_under 0 [some (.inr (.inr 309)), some (.inl x1), some (.inl x2), some (.inl x3), none, none, none] [] h R := by
  refine fv_aload_n (ft_d o_Mo_under 0 rfl) rfl rfl ?_
  refine fv_getR (b := 323) (ft_d o_Mo_under 1 rfl) rfl fl_Mo_53 sh_309 rfl ly_309_17 ?_
  refine fv_iload_n (ft_d o_Mo_under 2 rfl) rfl rfl ?_
  refine fv_iconst (ft_d o_Mo_under 3 rfl) rfl rfl ?_
  refine fv_iload_n (ft_d o_Mo_under 4 rfl) rfl rfl ?_
  refine fv_callif (st := [.inr (.inr 323)]) (z := 61 * (2 * x1 + (1 : Int)) + x3) (Or.inl rfl) rfl (ft_mm (pre := [.inl x3, .inl 1, .inl x1]) rfl) (ft_rnS (K' := k_Mo_at) (As := [.inl x1, .inl 1, .inl x3]) (ft_d o_Mo_under 5 rfl) ml_Mo_248 lz_Mo_at rfl lw_Mo_at ⟨rfl, rfl, Nat.le_of_ble_eq_true rfl, Nat.le_of_ble_eq_true rfl⟩ rfl rfl (Nat.le_of_ble_eq_true rfl) (c_Mo_at w.1)) ?_
  have w := w.2
  refine fv_iald (ft_d o_Mo_under 6 rfl) rfl sh_323 w.1 ?_
  have w := w.2
  generalize en3 : h 323 (61 * (2 * x1 + (1 : Int)) + x3).toNat = n3
  have w := w n3 en3.symm
  refine fv_istore (L' := [some (.inr (.inr 309)), some (.inl x1), some (.inl x2), some (.inl x3), some (.inl n3), none, none]) (ft_d o_Mo_under 7 rfl) rfl (Nat.le_of_ble_eq_true rfl) rfl ?_
  refine fv_iload_n (ft_d o_Mo_under 8 rfl) rfl rfl ?_
  refine fv_iload_n (ft_d o_Mo_under 9 rfl) rfl rfl ?_
  refine fv_isub (ft_d o_Mo_under 10 rfl) rfl ?_
  generalize en4 : ft_sub x3 x2 = n4
  have w := w n4 en4.symm
  refine fv_istore (L' := [some (.inr (.inr 309)), some (.inl x1), some (.inl x2), some (.inl x3), some (.inl n3), some (.inl n4), none]) (ft_d o_Mo_under 11 rfl) rfl (Nat.le_of_ble_eq_true rfl) rfl ?_
  refine fv_iload (ft_d o_Mo_under 12 rfl) rfl rfl ?_
  refine fv_if_ge (tgt := 28) (ft_d o_Mo_under 13 rfl) rfl rfl (fun c => ?_) (fun c => ?_)
  · have w := w.1 c
    refine fv_aload_n (ft_d o_Mo_under 16 rfl) rfl rfl ?_
    refine fv_getR (b := 323) (ft_d o_Mo_under 17 rfl) rfl fl_Mo_53 sh_309 rfl ly_309_17 ?_
    refine fv_iload_n (ft_d o_Mo_under 18 rfl) rfl rfl ?_
    refine fv_iconst (ft_d o_Mo_under 19 rfl) rfl rfl ?_
    refine fv_iload (ft_d o_Mo_under 20 rfl) rfl rfl ?_
    refine fv_callif (st := [.inr (.inr 323)]) (z := 61 * (2 * x1 + (0 : Int)) + n4) (Or.inl rfl) rfl (ft_mm (pre := [.inl n4, .inl 0, .inl x1]) rfl) (ft_rnS (K' := k_Mo_at) (As := [.inl x1, .inl 0, .inl n4]) (ft_d o_Mo_under 21 rfl) ml_Mo_248 lz_Mo_at rfl lw_Mo_at ⟨rfl, rfl, Nat.le_of_ble_eq_true rfl, Nat.le_of_ble_eq_true rfl⟩ rfl rfl (Nat.le_of_ble_eq_true rfl) (c_Mo_at w.1)) ?_
    have w := w.2
    refine fv_iald (ft_d o_Mo_under 22 rfl) rfl sh_323 w.1 ?_
    have w := w.2
    generalize en7 : h 323 (61 * (2 * x1 + (0 : Int)) + n4).toNat = n7
    have w := w n7 en7.symm
    refine fv_istore (L' := [some (.inr (.inr 309)), some (.inl x1), some (.inl x2), some (.inl x3), some (.inl n3), some (.inl n4), some (.inl n7)]) (ft_d o_Mo_under 23 rfl) rfl (Nat.le_of_ble_eq_true rfl) rfl ?_
    refine fv_iload (ft_d o_Mo_under 24 rfl) rfl rfl ?_
    refine fv_iload (ft_d o_Mo_under 25 rfl) rfl rfl ?_
    refine fv_icmp_ge (tgt := 54) (ft_d o_Mo_under 26 rfl) rfl rfl (fun c => ?_) (fun c => ?_)
    · have w := w.1 c
      refine fv_iload (ft_d o_Mo_under 29 rfl) rfl rfl ?_
      exact fv_ireturn (ft_d o_Mo_under 30 rfl) rfl w
    · have w := w.2 c
      refine fv_iload (ft_d o_Mo_under 27 rfl) rfl rfl ?_
      refine fv_goto (pc' := 56) (ft_d o_Mo_under 28 rfl) rfl ?_
      exact fv_ireturn (ft_d o_Mo_under 30 rfl) rfl w
  · have w := w.2 c
    refine fv_ldc (v := 1000000000) (z := 1000000000) (ft_d o_Mo_under 14 rfl) rfl (ft_gt 1426 (by decide +kernel) rfl) rfl ?_
    refine fv_goto (pc' := 40) (ft_d o_Mo_under 15 rfl) rfl ?_
    refine fv_istore (L' := [some (.inr (.inr 309)), some (.inl x1), some (.inl x2), some (.inl x3), some (.inl n3), some (.inl n4), some (.inl 1000000000)]) (ft_d o_Mo_under 23 rfl) rfl (Nat.le_of_ble_eq_true rfl) rfl ?_
    refine fv_iload (ft_d o_Mo_under 24 rfl) rfl rfl ?_
    refine fv_iload (ft_d o_Mo_under 25 rfl) rfl rfl ?_
    refine fv_icmp_ge (tgt := 54) (ft_d o_Mo_under 26 rfl) rfl rfl (fun c => ?_) (fun c => ?_)
    · have w := w.1 c
      refine fv_iload (ft_d o_Mo_under 29 rfl) rfl rfl ?_
      exact fv_ireturn (ft_d o_Mo_under 30 rfl) rfl w
    · have w := w.2 c
      refine fv_iload (ft_d o_Mo_under 27 rfl) rfl rfl ?_
      refine fv_goto (pc' := 56) (ft_d o_Mo_under 28 rfl) rfl ?_
      exact fv_ireturn (ft_d o_Mo_under 30 rfl) rfl w
set_option maxRecDepth 20000 in
theorem b_Mo_joins_0 {x1 : Int} {x2 : Int} {h : ftH} {R : Option ftV → ftH → Prop} 
    (w : ((0 ≤ x1 ∧ x1 < 64) ∧ (∀ n1 : Int, n1 = h 321 x1.toNat → ft_V k_Mo_joins 10 [some (.inr (.inr 309)), some (.inl x1), some (.inl x2), some (.inl n1), some (.inl 0), none, none, none] [] h R))) : ft_V k_Mo_joins 0 [some (.inr (.inr 309)), some (.inl x1), some (.inl x2), none, none, none, none, none] [] h R := by
  refine fv_aload_n (ft_d o_Mo_joins 0 rfl) rfl rfl ?_
  refine fv_getR (b := 321) (ft_d o_Mo_joins 1 rfl) rfl fl_Mo_47 sh_309 rfl ly_309_15 ?_
  refine fv_iload_n (ft_d o_Mo_joins 2 rfl) rfl rfl ?_
  refine fv_iald (ft_d o_Mo_joins 3 rfl) rfl sh_321 w.1 ?_
  have w := w.2
  generalize en1 : h 321 x1.toNat = n1
  have w := w n1 en1.symm
  refine fv_istore_n (L' := [some (.inr (.inr 309)), some (.inl x1), some (.inl x2), some (.inl n1), none, none, none, none]) (ft_d o_Mo_joins 4 rfl) rfl (Nat.le_of_ble_eq_true rfl) rfl ?_
  refine fv_iconst (ft_d o_Mo_joins 5 rfl) rfl rfl ?_
  refine fv_istore (L' := [some (.inr (.inr 309)), some (.inl x1), some (.inl x2), some (.inl n1), some (.inl 0), none, none, none]) (ft_d o_Mo_joins 6 rfl) rfl (Nat.le_of_ble_eq_true rfl) rfl ?_
  exact w
set_option maxRecDepth 20000 in
theorem b_Mo_joins_10 {x1 : Int} {x2 : Int} {x3 : Int} {x4 : Int} {h : ftH} {R : Option ftV → ftH → Prop} 
    (w : ((61 ≤ x4 → ft_V k_Mo_joins 109 [some (.inr (.inr 309)), none, some (.inl x2), some (.inl x3), some (.inl 0), none, none, none] [] h R) ∧ (¬ (61 ≤ x4) → ft_V k_Mo_joins 24 [some (.inr (.inr 309)), some (.inl x1), some (.inl x2), some (.inl x3), some (.inl x4), some (.inl 1000000000), some (.inl 0), none] [] h R))) : ft_V k_Mo_joins 10 [some (.inr (.inr 309)), some (.inl x1), some (.inl x2), some (.inl x3), some (.inl x4), none, none, none] [] h R := by
  refine fv_iload (ft_d o_Mo_joins 7 rfl) rfl rfl ?_
  refine fv_bipush (ft_d o_Mo_joins 8 rfl) rfl rfl ?_
  refine fv_icmp_ge (tgt := 106) (ft_d o_Mo_joins 9 rfl) rfl rfl (fun c => ?_) (fun c => ?_)
  · have w := w.1 c
    refine fv_iconst (ft_d o_Mo_joins 56 rfl) rfl rfl ?_
    refine fv_istore (L' := [some (.inr (.inr 309)), some (.inl x1), some (.inl x2), some (.inl x3), some (.inl 0), none, none, none]) (ft_d o_Mo_joins 57 rfl) rfl (Nat.le_of_ble_eq_true rfl) rfl ?_
    refine fv_mask (M := [true, false, true, true, true, false, false, false]) rfl ?_
    exact w
  · have w := w.2 c
    refine fv_ldc (v := 1000000000) (z := 1000000000) (ft_d o_Mo_joins 10 rfl) rfl (ft_gt 1426 (by decide +kernel) rfl) rfl ?_
    refine fv_istore (L' := [some (.inr (.inr 309)), some (.inl x1), some (.inl x2), some (.inl x3), some (.inl x4), some (.inl 1000000000), none, none]) (ft_d o_Mo_joins 11 rfl) rfl (Nat.le_of_ble_eq_true rfl) rfl ?_
    refine fv_iconst (ft_d o_Mo_joins 12 rfl) rfl rfl ?_
    refine fv_istore (L' := [some (.inr (.inr 309)), some (.inl x1), some (.inl x2), some (.inl x3), some (.inl x4), some (.inl 1000000000), some (.inl 0), none]) (ft_d o_Mo_joins 13 rfl) rfl (Nat.le_of_ble_eq_true rfl) rfl ?_
    exact w
set_option maxRecDepth 20000 in
theorem b_Mo_joins_24 {x1 : Int} {x2 : Int} {x3 : Int} {x4 : Int} {x5 : Int} {x6 : Int} {h : ftH} {R : Option ftV → ftH → Prop} 
    (w : ((x4 < x6 → ((0 ≤ x4 ∧ x4 < 61) ∧ (∀ h1 : ftH, h1 = ft_hs h 324 x4.toNat x5 → ft_V k_Mo_joins 10 [some (.inr (.inr 309)), some (.inl x1), some (.inl x2), some (.inl x3), some (.inl (ft_add x4 1)), none, none, none] [] h1 R))) ∧ (¬ (x4 < x6) → (((0 ≤ x3 ∧ x3 ≤ 64) ∧ (0 ≤ x2 ∧ x2 ≤ 1) ∧ (0 ≤ x6 ∧ x6 ≤ 60)) ∧ ((0 ≤ 61 * (2 * x3 + x2) + x6 ∧ 61 * (2 * x3 + x2) + x6 < 7930) ∧ (∃ R3 : Option ftV → ftH → Prop, ft_C k_Mo_under [.inr (.inr 309), .inl x1, .inl x2, .inl (ft_sub x4 x6)] h R3 ∧ ∀ (z5 : Int) (h2 : ftH), ft_in z5 → R3 (some (.inl z5)) h2 → (∀ n6 : Int, n6 = ft_add (h 323 (61 * (2 * x3 + x2) + x6).toNat) z5 → (((0 ≤ x3 ∧ x3 ≤ 64) ∧ (0 ≤ x2 ∧ x2 ≤ 1) ∧ (0 ≤ x6 ∧ x6 ≤ 60)) ∧ ((0 ≤ 61 * (2 * x3 + x2) + x6 ∧ 61 * (2 * x3 + x2) + x6 < 7930) ∧ ((1000000000 ≤ h2 323 (61 * (2 * x3 + x2) + x6).toNat → ft_V k_Mo_joins 24 [some (.inr (.inr 309)), some (.inl x1), some (.inl x2), some (.inl x3), some (.inl x4), some (.inl x5), some (.inl (ft_add x6 1)), none] [] h2 R) ∧ (¬ (1000000000 ≤ h2 323 (61 * (2 * x3 + x2) + x6).toNat) → ((x5 ≤ n6 → ft_V k_Mo_joins 24 [some (.inr (.inr 309)), some (.inl x1), some (.inl x2), some (.inl x3), some (.inl x4), some (.inl x5), some (.inl (ft_add x6 1)), none] [] h2 R) ∧ (¬ (x5 ≤ n6) → ft_V k_Mo_joins 24 [some (.inr (.inr 309)), some (.inl x1), some (.inl x2), some (.inl x3), some (.inl x4), some (.inl n6), some (.inl (ft_add x6 1)), none] [] h2 R))))))))))))) : ft_V k_Mo_joins 24 [some (.inr (.inr 309)), some (.inl x1), some (.inl x2), some (.inl x3), some (.inl x4), some (.inl x5), some (.inl x6), none] [] h R := by
  refine fv_iload (ft_d o_Mo_joins 14 rfl) rfl rfl ?_
  refine fv_iload (ft_d o_Mo_joins 15 rfl) rfl rfl ?_
  refine fv_icmp_gt (tgt := 91) (ft_d o_Mo_joins 16 rfl) rfl rfl (fun c => ?_) (fun c => ?_)
  · have w := w.1 c
    refine fv_aload_n (ft_d o_Mo_joins 49 rfl) rfl rfl ?_
    refine fv_getR (b := 324) (ft_d o_Mo_joins 50 rfl) rfl fl_Mo_56 sh_309 rfl ly_309_18 ?_
    refine fv_iload (ft_d o_Mo_joins 51 rfl) rfl rfl ?_
    refine fv_iload (ft_d o_Mo_joins 52 rfl) rfl rfl ?_
    refine fv_iast (ft_d o_Mo_joins 53 rfl) rfl sh_324 w.1 ?_
    have w := w.2
    generalize eh1 : ft_hs h 324 x4.toNat x5 = h1
    have w := w h1 eh1.symm
    refine fv_iinc (L' := [some (.inr (.inr 309)), some (.inl x1), some (.inl x2), some (.inl x3), some (.inl (ft_add x4 1)), some (.inl x5), some (.inl x6), none]) (ft_d o_Mo_joins 54 rfl) rfl rfl (Nat.le_of_ble_eq_true rfl) rfl ?_
    refine fv_goto (pc' := 10) (ft_d o_Mo_joins 55 rfl) rfl ?_
    refine fv_mask (M := [true, true, true, true, true, false, false, false]) rfl ?_
    exact w
  · have w := w.2 c
    refine fv_aload_n (ft_d o_Mo_joins 17 rfl) rfl rfl ?_
    refine fv_getR (b := 323) (ft_d o_Mo_joins 18 rfl) rfl fl_Mo_53 sh_309 rfl ly_309_17 ?_
    refine fv_iload_n (ft_d o_Mo_joins 19 rfl) rfl rfl ?_
    refine fv_iload_n (ft_d o_Mo_joins 20 rfl) rfl rfl ?_
    refine fv_iload (ft_d o_Mo_joins 21 rfl) rfl rfl ?_
    refine fv_callif (st := [.inr (.inr 323)]) (z := 61 * (2 * x3 + x2) + x6) (Or.inl rfl) rfl (ft_mm (pre := [.inl x6, .inl x2, .inl x3]) rfl) (ft_rnS (K' := k_Mo_at) (As := [.inl x3, .inl x2, .inl x6]) (ft_d o_Mo_joins 22 rfl) ml_Mo_248 lz_Mo_at rfl lw_Mo_at ⟨rfl, rfl, Nat.le_of_ble_eq_true rfl, Nat.le_of_ble_eq_true rfl⟩ rfl rfl (Nat.le_of_ble_eq_true rfl) (c_Mo_at w.1)) ?_
    have w := w.2
    refine fv_iald (ft_d o_Mo_joins 23 rfl) rfl sh_323 w.1 ?_
    have w := w.2
    refine fv_aload_n (ft_d o_Mo_joins 24 rfl) rfl rfl ?_
    refine fv_iload_n (ft_d o_Mo_joins 25 rfl) rfl rfl ?_
    refine fv_iload_n (ft_d o_Mo_joins 26 rfl) rfl rfl ?_
    refine fv_iload (ft_d o_Mo_joins 27 rfl) rfl rfl ?_
    refine fv_iload (ft_d o_Mo_joins 28 rfl) rfl rfl ?_
    refine fv_isub (ft_d o_Mo_joins 29 rfl) rfl ?_
    obtain ⟨R3, c4, w⟩ := w
    refine fv_calli (st := [.inl (h 323 (61 * (2 * x3 + x2) + x6).toNat)]) (Or.inl rfl) rfl (ft_mm (pre := [.inl (ft_sub x4 x6), .inl x2, .inl x1, .inr (.inr 309)]) rfl) (ft_rnV (K' := k_Mo_under) (As := [.inl x1, .inl x2, .inl (ft_sub x4 x6)]) (ft_d o_Mo_joins 30 rfl) ml_Mo_253 li_Mo_under.1 li_Mo_under.2 lw_Mo_under ⟨rfl, rfl, Nat.le_of_ble_eq_true rfl, Nat.le_of_ble_eq_true rfl⟩ sh_309 rfl rfl rfl rfl (Nat.le_of_ble_eq_true rfl) c4) (fun z5 h2 hz hw => ?_)
    have w := w z5 h2 hz hw
    refine fv_iadd (ft_d o_Mo_joins 31 rfl) rfl ?_
    generalize en6 : ft_add (h 323 (61 * (2 * x3 + x2) + x6).toNat) z5 = n6
    have w := w n6 en6.symm
    refine fv_istore (L' := [some (.inr (.inr 309)), some (.inl x1), some (.inl x2), some (.inl x3), some (.inl x4), some (.inl x5), some (.inl x6), some (.inl n6)]) (ft_d o_Mo_joins 32 rfl) rfl (Nat.le_of_ble_eq_true rfl) rfl ?_
    refine fv_aload_n (ft_d o_Mo_joins 33 rfl) rfl rfl ?_
    refine fv_getR (b := 323) (ft_d o_Mo_joins 34 rfl) rfl fl_Mo_53 sh_309 rfl ly_309_17 ?_
    refine fv_iload_n (ft_d o_Mo_joins 35 rfl) rfl rfl ?_
    refine fv_iload_n (ft_d o_Mo_joins 36 rfl) rfl rfl ?_
    refine fv_iload (ft_d o_Mo_joins 37 rfl) rfl rfl ?_
    refine fv_callif (st := [.inr (.inr 323)]) (z := 61 * (2 * x3 + x2) + x6) (Or.inl rfl) rfl (ft_mm (pre := [.inl x6, .inl x2, .inl x3]) rfl) (ft_rnS (K' := k_Mo_at) (As := [.inl x3, .inl x2, .inl x6]) (ft_d o_Mo_joins 38 rfl) ml_Mo_248 lz_Mo_at rfl lw_Mo_at ⟨rfl, rfl, Nat.le_of_ble_eq_true rfl, Nat.le_of_ble_eq_true rfl⟩ rfl rfl (Nat.le_of_ble_eq_true rfl) (c_Mo_at w.1)) ?_
    have w := w.2
    refine fv_iald (ft_d o_Mo_joins 39 rfl) rfl sh_323 w.1 ?_
    have w := w.2
    refine fv_ldc (v := 1000000000) (z := 1000000000) (ft_d o_Mo_joins 40 rfl) rfl (ft_gt 1426 (by decide +kernel) rfl) rfl ?_
    refine fv_icmp_ge (tgt := 85) (ft_d o_Mo_joins 41 rfl) rfl rfl (fun c => ?_) (fun c => ?_)
    · have w := w.1 c
      refine fv_iinc (L' := [some (.inr (.inr 309)), some (.inl x1), some (.inl x2), some (.inl x3), some (.inl x4), some (.inl x5), some (.inl (ft_add x6 1)), some (.inl n6)]) (ft_d o_Mo_joins 47 rfl) rfl rfl (Nat.le_of_ble_eq_true rfl) rfl ?_
      refine fv_goto (pc' := 24) (ft_d o_Mo_joins 48 rfl) rfl ?_
      refine fv_mask (M := [true, true, true, true, true, true, true, false]) rfl ?_
      exact w
    · have w := w.2 c
      refine fv_iload (ft_d o_Mo_joins 42 rfl) rfl rfl ?_
      refine fv_iload (ft_d o_Mo_joins 43 rfl) rfl rfl ?_
      refine fv_icmp_ge (tgt := 85) (ft_d o_Mo_joins 44 rfl) rfl rfl (fun c => ?_) (fun c => ?_)
      · have w := w.1 c
        refine fv_iinc (L' := [some (.inr (.inr 309)), some (.inl x1), some (.inl x2), some (.inl x3), some (.inl x4), some (.inl x5), some (.inl (ft_add x6 1)), some (.inl n6)]) (ft_d o_Mo_joins 47 rfl) rfl rfl (Nat.le_of_ble_eq_true rfl) rfl ?_
        refine fv_goto (pc' := 24) (ft_d o_Mo_joins 48 rfl) rfl ?_
        refine fv_mask (M := [true, true, true, true, true, true, true, false]) rfl ?_
        exact w
      · have w := w.2 c
        refine fv_iload (ft_d o_Mo_joins 45 rfl) rfl rfl ?_
        refine fv_istore (L' := [some (.inr (.inr 309)), some (.inl x1), some (.inl x2), some (.inl x3), some (.inl x4), some (.inl n6), some (.inl x6), some (.inl n6)]) (ft_d o_Mo_joins 46 rfl) rfl (Nat.le_of_ble_eq_true rfl) rfl ?_
        refine fv_iinc (L' := [some (.inr (.inr 309)), some (.inl x1), some (.inl x2), some (.inl x3), some (.inl x4), some (.inl n6), some (.inl (ft_add x6 1)), some (.inl n6)]) (ft_d o_Mo_joins 47 rfl) rfl rfl (Nat.le_of_ble_eq_true rfl) rfl ?_
        refine fv_goto (pc' := 24) (ft_d o_Mo_joins 48 rfl) rfl ?_
        refine fv_mask (M := [true, true, true, true, true, true, true, false]) rfl ?_
        exact w
set_option maxRecDepth 20000 in
theorem b_Mo_joins_109 {x2 : Int} {x3 : Int} {x4 : Int} {h : ftH} {R : Option ftV → ftH → Prop} 
    (w : ((61 ≤ x4 → R none h) ∧ (¬ (61 ≤ x4) → (((0 ≤ x3 ∧ x3 ≤ 64) ∧ (0 ≤ x2 ∧ x2 ≤ 1) ∧ (0 ≤ x4 ∧ x4 ≤ 60)) ∧ ((0 ≤ x4 ∧ x4 < 61) ∧ ((0 ≤ 61 * (2 * x3 + x2) + x4 ∧ 61 * (2 * x3 + x2) + x4 < 7930) ∧ (∀ h1 : ftH, h1 = ft_hs h 323 (61 * (2 * x3 + x2) + x4).toNat (h 324 x4.toNat) → ft_V k_Mo_joins 109 [some (.inr (.inr 309)), none, some (.inl x2), some (.inl x3), some (.inl (ft_add x4 1)), none, none, none] [] h1 R))))))) : ft_V k_Mo_joins 109 [some (.inr (.inr 309)), none, some (.inl x2), some (.inl x3), some (.inl x4), none, none, none] [] h R := by
  refine fv_iload (ft_d o_Mo_joins 58 rfl) rfl rfl ?_
  refine fv_bipush (ft_d o_Mo_joins 59 rfl) rfl rfl ?_
  refine fv_icmp_ge (tgt := 141) (ft_d o_Mo_joins 60 rfl) rfl rfl (fun c => ?_) (fun c => ?_)
  · have w := w.1 c
    exact fv_return (ft_d o_Mo_joins 74 rfl) rfl w
  · have w := w.2 c
    refine fv_aload_n (ft_d o_Mo_joins 61 rfl) rfl rfl ?_
    refine fv_getR (b := 323) (ft_d o_Mo_joins 62 rfl) rfl fl_Mo_53 sh_309 rfl ly_309_17 ?_
    refine fv_iload_n (ft_d o_Mo_joins 63 rfl) rfl rfl ?_
    refine fv_iload_n (ft_d o_Mo_joins 64 rfl) rfl rfl ?_
    refine fv_iload (ft_d o_Mo_joins 65 rfl) rfl rfl ?_
    refine fv_callif (st := [.inr (.inr 323)]) (z := 61 * (2 * x3 + x2) + x4) (Or.inl rfl) rfl (ft_mm (pre := [.inl x4, .inl x2, .inl x3]) rfl) (ft_rnS (K' := k_Mo_at) (As := [.inl x3, .inl x2, .inl x4]) (ft_d o_Mo_joins 66 rfl) ml_Mo_248 lz_Mo_at rfl lw_Mo_at ⟨rfl, rfl, Nat.le_of_ble_eq_true rfl, Nat.le_of_ble_eq_true rfl⟩ rfl rfl (Nat.le_of_ble_eq_true rfl) (c_Mo_at w.1)) ?_
    have w := w.2
    refine fv_aload_n (ft_d o_Mo_joins 67 rfl) rfl rfl ?_
    refine fv_getR (b := 324) (ft_d o_Mo_joins 68 rfl) rfl fl_Mo_56 sh_309 rfl ly_309_18 ?_
    refine fv_iload (ft_d o_Mo_joins 69 rfl) rfl rfl ?_
    refine fv_iald (ft_d o_Mo_joins 70 rfl) rfl sh_324 w.1 ?_
    have w := w.2
    refine fv_iast (ft_d o_Mo_joins 71 rfl) rfl sh_323 w.1 ?_
    have w := w.2
    generalize eh1 : ft_hs h 323 (61 * (2 * x3 + x2) + x4).toNat (h 324 x4.toNat) = h1
    have w := w h1 eh1.symm
    refine fv_iinc (L' := [some (.inr (.inr 309)), none, some (.inl x2), some (.inl x3), some (.inl (ft_add x4 1)), none, none, none]) (ft_d o_Mo_joins 72 rfl) rfl rfl (Nat.le_of_ble_eq_true rfl) rfl ?_
    refine fv_goto (pc' := 109) (ft_d o_Mo_joins 73 rfl) rfl ?_
    exact w
set_option maxRecDepth 20000 in
theorem b_Mo_laysLost_0  {h : ftH} {R : Option ftV → ftH → Prop} 
    (w : (∃ R1 : Option ftV → ftH → Prop, ft_C k_Mo_startsLost [.inr (.inr 309)] h R1 ∧ ∀ h1 : ftH, R1 none h1 → (∀ n3 : Int, n3 = ft_sub (h1 309 14) 1 → ft_V k_Mo_laysLost 11 [some (.inr (.inr 309)), some (.inl n3)] [] h1 R))) : ft_V k_Mo_laysLost 0 [some (.inr (.inr 309)), none] [] h R := by
  refine fv_aload_n (ft_d o_Mo_laysLost 0 rfl) rfl rfl ?_
  obtain ⟨R1, c2, w⟩ := w
  refine fv_callv (st := []) rfl rfl (ft_mm (pre := [.inr (.inr 309)]) rfl) (ft_rnV (K' := k_Mo_startsLost) (As := []) (ft_d o_Mo_laysLost 1 rfl) ml_Mo_256 li_Mo_startsLost.1 li_Mo_startsLost.2 lw_Mo_startsLost ⟨rfl, rfl, Nat.le_of_ble_eq_true rfl, Nat.le_of_ble_eq_true rfl⟩ sh_309 rfl rfl rfl rfl (Nat.le_of_ble_eq_true rfl) c2) (fun h1 hw => ?_)
  have w := w h1 hw
  refine fv_aload_n (ft_d o_Mo_laysLost 2 rfl) rfl rfl ?_
  refine fv_getI (ft_d o_Mo_laysLost 3 rfl) rfl fl_Mo_236 sh_309 rfl ?_
  refine fv_iconst (ft_d o_Mo_laysLost 4 rfl) rfl rfl ?_
  refine fv_isub (ft_d o_Mo_laysLost 5 rfl) rfl ?_
  generalize en3 : ft_sub (h1 309 14) 1 = n3
  have w := w n3 en3.symm
  refine fv_istore_n (L' := [some (.inr (.inr 309)), some (.inl n3)]) (ft_d o_Mo_laysLost 6 rfl) rfl (Nat.le_of_ble_eq_true rfl) rfl ?_
  exact w
set_option maxRecDepth 20000 in
theorem b_Mo_laysLost_11 {x1 : Int} {h : ftH} {R : Option ftV → ftH → Prop} 
    (w : ((x1 < 0 → R none h) ∧ (¬ (x1 < 0) → (∃ R1 : Option ftV → ftH → Prop, ft_C k_Mo_joins [.inr (.inr 309), .inl x1, .inl 0] h R1 ∧ ∀ h1 : ftH, R1 none h1 → ((0 ≤ x1 ∧ x1 < 64) ∧ ((h1 321 x1.toNat = 64 → ft_V k_Mo_laysLost 11 [some (.inr (.inr 309)), some (.inl (ft_add x1 (-1)))] [] h1 R) ∧ (¬ (h1 321 x1.toNat = 64) → (∃ R3 : Option ftV → ftH → Prop, ft_C k_Mo_joins [.inr (.inr 309), .inl x1, .inl 1] h1 R3 ∧ ∀ h2 : ftH, R3 none h2 → ft_V k_Mo_laysLost 11 [some (.inr (.inr 309)), some (.inl (ft_add x1 (-1)))] [] h2 R)))))))) : ft_V k_Mo_laysLost 11 [some (.inr (.inr 309)), some (.inl x1)] [] h R := by
  refine fv_iload_n (ft_d o_Mo_laysLost 7 rfl) rfl rfl ?_
  refine fv_if_lt (tgt := 44) (ft_d o_Mo_laysLost 8 rfl) rfl rfl (fun c => ?_) (fun c => ?_)
  · have w := w.1 c
    exact fv_return (ft_d o_Mo_laysLost 25 rfl) rfl w
  · have w := w.2 c
    refine fv_aload_n (ft_d o_Mo_laysLost 9 rfl) rfl rfl ?_
    refine fv_iload_n (ft_d o_Mo_laysLost 10 rfl) rfl rfl ?_
    refine fv_iconst (ft_d o_Mo_laysLost 11 rfl) rfl rfl ?_
    obtain ⟨R1, c2, w⟩ := w
    refine fv_callv (st := []) rfl rfl (ft_mm (pre := [.inl 0, .inl x1, .inr (.inr 309)]) rfl) (ft_rnV (K' := k_Mo_joins) (As := [.inl x1, .inl 0]) (ft_d o_Mo_laysLost 12 rfl) ml_Mo_259 li_Mo_joins.1 li_Mo_joins.2 lw_Mo_joins ⟨rfl, rfl, Nat.le_of_ble_eq_true rfl, Nat.le_of_ble_eq_true rfl⟩ sh_309 rfl rfl rfl rfl (Nat.le_of_ble_eq_true rfl) c2) (fun h1 hw => ?_)
    have w := w h1 hw
    refine fv_aload_n (ft_d o_Mo_laysLost 13 rfl) rfl rfl ?_
    refine fv_getR (b := 321) (ft_d o_Mo_laysLost 14 rfl) rfl fl_Mo_47 sh_309 rfl ly_309_15 ?_
    refine fv_iload_n (ft_d o_Mo_laysLost 15 rfl) rfl rfl ?_
    refine fv_iald (ft_d o_Mo_laysLost 16 rfl) rfl sh_321 w.1 ?_
    have w := w.2
    refine fv_bipush (ft_d o_Mo_laysLost 17 rfl) rfl rfl ?_
    refine fv_icmp_eq (tgt := 38) (ft_d o_Mo_laysLost 18 rfl) rfl rfl (fun c => ?_) (fun c => ?_)
    · have w := w.1 c
      refine fv_iinc (L' := [some (.inr (.inr 309)), some (.inl (ft_add x1 (-1)))]) (ft_d o_Mo_laysLost 23 rfl) rfl rfl (Nat.le_of_ble_eq_true rfl) rfl ?_
      refine fv_goto (pc' := 11) (ft_d o_Mo_laysLost 24 rfl) rfl ?_
      exact w
    · have w := w.2 c
      refine fv_aload_n (ft_d o_Mo_laysLost 19 rfl) rfl rfl ?_
      refine fv_iload_n (ft_d o_Mo_laysLost 20 rfl) rfl rfl ?_
      refine fv_iconst (ft_d o_Mo_laysLost 21 rfl) rfl rfl ?_
      obtain ⟨R3, c4, w⟩ := w
      refine fv_callv (st := []) rfl rfl (ft_mm (pre := [.inl 1, .inl x1, .inr (.inr 309)]) rfl) (ft_rnV (K' := k_Mo_joins) (As := [.inl x1, .inl 1]) (ft_d o_Mo_laysLost 22 rfl) ml_Mo_259 li_Mo_joins.1 li_Mo_joins.2 lw_Mo_joins ⟨rfl, rfl, Nat.le_of_ble_eq_true rfl, Nat.le_of_ble_eq_true rfl⟩ sh_309 rfl rfl rfl rfl (Nat.le_of_ble_eq_true rfl) c4) (fun h2 hw => ?_)
      have w := w h2 hw
      refine fv_iinc (L' := [some (.inr (.inr 309)), some (.inl (ft_add x1 (-1)))]) (ft_d o_Mo_laysLost 23 rfl) rfl rfl (Nat.le_of_ble_eq_true rfl) rfl ?_
      refine fv_goto (pc' := 11) (ft_d o_Mo_laysLost 24 rfl) rfl ?_
      exact w
set_option maxRecDepth 20000 in
theorem b_Mo_lostBy_0 {x1 : Int} {h : ftH} {R : Option ftV → ftH → Prop} 
    (w : ft_V k_Mo_lostBy 5 [some (.inr (.inr 309)), some (.inl x1), some (.inl 1000000000), some (.inl 0)] [] h R) : ft_V k_Mo_lostBy 0 [some (.inr (.inr 309)), some (.inl x1), none, none] [] h R := by
  refine fv_ldc (v := 1000000000) (z := 1000000000) (ft_d o_Mo_lostBy 0 rfl) rfl (ft_gt 1426 (by decide +kernel) rfl) rfl ?_
  refine fv_istore_n (L' := [some (.inr (.inr 309)), some (.inl x1), some (.inl 1000000000), none]) (ft_d o_Mo_lostBy 1 rfl) rfl (Nat.le_of_ble_eq_true rfl) rfl ?_
  refine fv_iconst (ft_d o_Mo_lostBy 2 rfl) rfl rfl ?_
  refine fv_istore_n (L' := [some (.inr (.inr 309)), some (.inl x1), some (.inl 1000000000), some (.inl 0)]) (ft_d o_Mo_lostBy 3 rfl) rfl (Nat.le_of_ble_eq_true rfl) rfl ?_
  exact w
set_option maxRecDepth 20000 in
theorem b_Mo_lostBy_5 {x1 : Int} {x2 : Int} {x3 : Int} {h : ftH} {R : Option ftV → ftH → Prop} 
    (w : ((x1 < x3 → R (some (.inl x2)) h) ∧ (¬ (x1 < x3) → (((0 ≤ (64 : Int) ∧ (64 : Int) ≤ 64) ∧ (0 ≤ (0 : Int) ∧ (0 : Int) ≤ 1) ∧ (0 ≤ x3 ∧ x3 ≤ 60)) ∧ ((0 ≤ 61 * (2 * (64 : Int) + (0 : Int)) + x3 ∧ 61 * (2 * (64 : Int) + (0 : Int)) + x3 < 7930) ∧ ((x2 ≤ h 323 (61 * (2 * (64 : Int) + (0 : Int)) + x3).toNat → ft_V k_Mo_lostBy 5 [some (.inr (.inr 309)), some (.inl x1), some (.inl x2), some (.inl (ft_add x3 1))] [] h R) ∧ (¬ (x2 ≤ h 323 (61 * (2 * (64 : Int) + (0 : Int)) + x3).toNat) → (((0 ≤ (64 : Int) ∧ (64 : Int) ≤ 64) ∧ (0 ≤ (0 : Int) ∧ (0 : Int) ≤ 1) ∧ (0 ≤ x3 ∧ x3 ≤ 60)) ∧ ((0 ≤ 61 * (2 * (64 : Int) + (0 : Int)) + x3 ∧ 61 * (2 * (64 : Int) + (0 : Int)) + x3 < 7930) ∧ (∀ n5 : Int, n5 = h 323 (61 * (2 * (64 : Int) + (0 : Int)) + x3).toNat → ft_V k_Mo_lostBy 5 [some (.inr (.inr 309)), some (.inl x1), some (.inl n5), some (.inl (ft_add x3 1))] [] h R)))))))))) : ft_V k_Mo_lostBy 5 [some (.inr (.inr 309)), some (.inl x1), some (.inl x2), some (.inl x3)] [] h R := by
  refine fv_iload_n (ft_d o_Mo_lostBy 4 rfl) rfl rfl ?_
  refine fv_iload_n (ft_d o_Mo_lostBy 5 rfl) rfl rfl ?_
  refine fv_icmp_gt (tgt := 45) (ft_d o_Mo_lostBy 6 rfl) rfl rfl (fun c => ?_) (fun c => ?_)
  · have w := w.1 c
    refine fv_iload_n (ft_d o_Mo_lostBy 26 rfl) rfl rfl ?_
    exact fv_ireturn (ft_d o_Mo_lostBy 27 rfl) rfl w
  · have w := w.2 c
    refine fv_aload_n (ft_d o_Mo_lostBy 7 rfl) rfl rfl ?_
    refine fv_getR (b := 323) (ft_d o_Mo_lostBy 8 rfl) rfl fl_Mo_53 sh_309 rfl ly_309_17 ?_
    refine fv_bipush (ft_d o_Mo_lostBy 9 rfl) rfl rfl ?_
    refine fv_iconst (ft_d o_Mo_lostBy 10 rfl) rfl rfl ?_
    refine fv_iload_n (ft_d o_Mo_lostBy 11 rfl) rfl rfl ?_
    refine fv_callif (st := [.inr (.inr 323)]) (z := 61 * (2 * (64 : Int) + (0 : Int)) + x3) (Or.inl rfl) rfl (ft_mm (pre := [.inl x3, .inl 0, .inl 64]) rfl) (ft_rnS (K' := k_Mo_at) (As := [.inl 64, .inl 0, .inl x3]) (ft_d o_Mo_lostBy 12 rfl) ml_Mo_248 lz_Mo_at rfl lw_Mo_at ⟨rfl, rfl, Nat.le_of_ble_eq_true rfl, Nat.le_of_ble_eq_true rfl⟩ rfl rfl (Nat.le_of_ble_eq_true rfl) (c_Mo_at w.1)) ?_
    have w := w.2
    refine fv_iald (ft_d o_Mo_lostBy 13 rfl) rfl sh_323 w.1 ?_
    have w := w.2
    refine fv_iload_n (ft_d o_Mo_lostBy 14 rfl) rfl rfl ?_
    refine fv_icmp_ge (tgt := 39) (ft_d o_Mo_lostBy 15 rfl) rfl rfl (fun c => ?_) (fun c => ?_)
    · have w := w.1 c
      refine fv_iinc (L' := [some (.inr (.inr 309)), some (.inl x1), some (.inl x2), some (.inl (ft_add x3 1))]) (ft_d o_Mo_lostBy 24 rfl) rfl rfl (Nat.le_of_ble_eq_true rfl) rfl ?_
      refine fv_goto (pc' := 5) (ft_d o_Mo_lostBy 25 rfl) rfl ?_
      exact w
    · have w := w.2 c
      refine fv_aload_n (ft_d o_Mo_lostBy 16 rfl) rfl rfl ?_
      refine fv_getR (b := 323) (ft_d o_Mo_lostBy 17 rfl) rfl fl_Mo_53 sh_309 rfl ly_309_17 ?_
      refine fv_bipush (ft_d o_Mo_lostBy 18 rfl) rfl rfl ?_
      refine fv_iconst (ft_d o_Mo_lostBy 19 rfl) rfl rfl ?_
      refine fv_iload_n (ft_d o_Mo_lostBy 20 rfl) rfl rfl ?_
      refine fv_callif (st := [.inr (.inr 323)]) (z := 61 * (2 * (64 : Int) + (0 : Int)) + x3) (Or.inl rfl) rfl (ft_mm (pre := [.inl x3, .inl 0, .inl 64]) rfl) (ft_rnS (K' := k_Mo_at) (As := [.inl 64, .inl 0, .inl x3]) (ft_d o_Mo_lostBy 21 rfl) ml_Mo_248 lz_Mo_at rfl lw_Mo_at ⟨rfl, rfl, Nat.le_of_ble_eq_true rfl, Nat.le_of_ble_eq_true rfl⟩ rfl rfl (Nat.le_of_ble_eq_true rfl) (c_Mo_at w.1)) ?_
      have w := w.2
      refine fv_iald (ft_d o_Mo_lostBy 22 rfl) rfl sh_323 w.1 ?_
      have w := w.2
      generalize en5 : h 323 (61 * (2 * (64 : Int) + (0 : Int)) + x3).toNat = n5
      have w := w n5 en5.symm
      refine fv_istore_n (L' := [some (.inr (.inr 309)), some (.inl x1), some (.inl n5), some (.inl x3)]) (ft_d o_Mo_lostBy 23 rfl) rfl (Nat.le_of_ble_eq_true rfl) rfl ?_
      refine fv_iinc (L' := [some (.inr (.inr 309)), some (.inl x1), some (.inl n5), some (.inl (ft_add x3 1))]) (ft_d o_Mo_lostBy 24 rfl) rfl rfl (Nat.le_of_ble_eq_true rfl) rfl ?_
      refine fv_goto (pc' := 5) (ft_d o_Mo_lostBy 25 rfl) rfl ?_
      exact w
set_option maxRecDepth 20000 in
theorem b_Mo_fewestPlaces_0  {h : ftH} {R : Option ftV → ftH → Prop} 
    (w : ft_V k_Mo_fewestPlaces 2 [some (.inr (.inr 309)), some (.inl 0)] [] h R) : ft_V k_Mo_fewestPlaces 0 [some (.inr (.inr 309)), none] [] h R := by
  refine fv_iconst (ft_d o_Mo_fewestPlaces 0 rfl) rfl rfl ?_
  refine fv_istore_n (L' := [some (.inr (.inr 309)), some (.inl 0)]) (ft_d o_Mo_fewestPlaces 1 rfl) rfl (Nat.le_of_ble_eq_true rfl) rfl ?_
  exact w
set_option maxRecDepth 20000 in
theorem b_Mo_fewestPlaces_2 {x1 : Int} {h : ftH} {R : Option ftV → ftH → Prop} 
    (w : ((h 310 3 < x1 → R (some (.inl x1)) h) ∧ (¬ (h 310 3 < x1) → (((0 ≤ (64 : Int) ∧ (64 : Int) ≤ 64) ∧ (0 ≤ (0 : Int) ∧ (0 : Int) ≤ 1) ∧ (0 ≤ x1 ∧ x1 ≤ 60)) ∧ ((0 ≤ 61 * (2 * (64 : Int) + (0 : Int)) + x1 ∧ 61 * (2 * (64 : Int) + (0 : Int)) + x1 < 7930) ∧ ((h 323 (61 * (2 * (64 : Int) + (0 : Int)) + x1).toNat = h 309 21 → R (some (.inl x1)) h) ∧ (¬ (h 323 (61 * (2 * (64 : Int) + (0 : Int)) + x1).toNat = h 309 21) → ft_V k_Mo_fewestPlaces 2 [some (.inr (.inr 309)), some (.inl (ft_add x1 1))] [] h R))))))) : ft_V k_Mo_fewestPlaces 2 [some (.inr (.inr 309)), some (.inl x1)] [] h R := by
  refine fv_iload_n (ft_d o_Mo_fewestPlaces 2 rfl) rfl rfl ?_
  refine fv_aload_n (ft_d o_Mo_fewestPlaces 3 rfl) rfl rfl ?_
  refine fv_getR (b := 310) (ft_d o_Mo_fewestPlaces 4 rfl) rfl fl_Mo_13 sh_309 rfl ly_309_1 ?_
  refine fv_iconst (ft_d o_Mo_fewestPlaces 5 rfl) rfl rfl ?_
  refine fv_ialdj (j := 3) (ft_d o_Mo_fewestPlaces 6 rfl) rfl sh_310 ⟨by decide, by decide⟩ rfl ?_
  refine fv_icmp_gt (tgt := 37) (ft_d o_Mo_fewestPlaces 7 rfl) rfl rfl (fun c => ?_) (fun c => ?_)
  · have w := w.1 c
    refine fv_iload_n (ft_d o_Mo_fewestPlaces 20 rfl) rfl rfl ?_
    exact fv_ireturn (ft_d o_Mo_fewestPlaces 21 rfl) rfl w
  · have w := w.2 c
    refine fv_aload_n (ft_d o_Mo_fewestPlaces 8 rfl) rfl rfl ?_
    refine fv_getR (b := 323) (ft_d o_Mo_fewestPlaces 9 rfl) rfl fl_Mo_53 sh_309 rfl ly_309_17 ?_
    refine fv_bipush (ft_d o_Mo_fewestPlaces 10 rfl) rfl rfl ?_
    refine fv_iconst (ft_d o_Mo_fewestPlaces 11 rfl) rfl rfl ?_
    refine fv_iload_n (ft_d o_Mo_fewestPlaces 12 rfl) rfl rfl ?_
    refine fv_callif (st := [.inr (.inr 323)]) (z := 61 * (2 * (64 : Int) + (0 : Int)) + x1) (Or.inl rfl) rfl (ft_mm (pre := [.inl x1, .inl 0, .inl 64]) rfl) (ft_rnS (K' := k_Mo_at) (As := [.inl 64, .inl 0, .inl x1]) (ft_d o_Mo_fewestPlaces 13 rfl) ml_Mo_248 lz_Mo_at rfl lw_Mo_at ⟨rfl, rfl, Nat.le_of_ble_eq_true rfl, Nat.le_of_ble_eq_true rfl⟩ rfl rfl (Nat.le_of_ble_eq_true rfl) (c_Mo_at w.1)) ?_
    have w := w.2
    refine fv_iald (ft_d o_Mo_fewestPlaces 14 rfl) rfl sh_323 w.1 ?_
    have w := w.2
    refine fv_aload_n (ft_d o_Mo_fewestPlaces 15 rfl) rfl rfl ?_
    refine fv_getI (ft_d o_Mo_fewestPlaces 16 rfl) rfl fl_Mo_262 sh_309 rfl ?_
    refine fv_icmp_eq (tgt := 37) (ft_d o_Mo_fewestPlaces 17 rfl) rfl rfl (fun c => ?_) (fun c => ?_)
    · have w := w.1 c
      refine fv_iload_n (ft_d o_Mo_fewestPlaces 20 rfl) rfl rfl ?_
      exact fv_ireturn (ft_d o_Mo_fewestPlaces 21 rfl) rfl w
    · have w := w.2 c
      refine fv_iinc (L' := [some (.inr (.inr 309)), some (.inl (ft_add x1 1))]) (ft_d o_Mo_fewestPlaces 18 rfl) rfl rfl (Nat.le_of_ble_eq_true rfl) rfl ?_
      refine fv_goto (pc' := 2) (ft_d o_Mo_fewestPlaces 19 rfl) rfl ?_
      exact w
set_option maxRecDepth 20000 in
theorem b_Mo_laysHits_0  {h : ftH} {R : Option ftV → ftH → Prop} 
    (w : ft_V k_Mo_laysHits 2 [some (.inr (.inr 309)), some (.inl 0), none] [] h R) : ft_V k_Mo_laysHits 0 [some (.inr (.inr 309)), none, none] [] h R := by
  refine fv_iconst (ft_d o_Mo_laysHits 0 rfl) rfl rfl ?_
  refine fv_istore_n (L' := [some (.inr (.inr 309)), some (.inl 0), none]) (ft_d o_Mo_laysHits 1 rfl) rfl (Nat.le_of_ble_eq_true rfl) rfl ?_
  exact w
set_option maxRecDepth 20000 in
theorem b_Mo_laysHits_2 {x1 : Int} {h : ftH} {R : Option ftV → ftH → Prop} 
    (w : ((h 309 14 ≤ x1 → ft_V k_Mo_laysHits 65 [some (.inr (.inr 309)), some (.inl 0), none] [] h R) ∧ (¬ (h 309 14 ≤ x1) → ((0 ≤ x1 ∧ x1 < 64) ∧ (∀ h1 : ftH, h1 = ft_hs h 322 x1.toNat 0 → ((0 ≤ x1 ∧ x1 < 64) ∧ (∀ h2 : ftH, h2 = ft_hs h1 325 x1.toNat 2 → ((0 ≤ x1 ∧ x1 < 64) ∧ ((0 ≤ x1 ∧ x1 < 64) ∧ (∃ R1 : Option ftV → ftH → Prop, ft_C k_Mo_entryFor [.inr (.inr 309), .inl (h2 318 x1.toNat), .inl (h2 319 x1.toNat)] h2 R1 ∧ ∀ (z3 : Int) (h3 : ftH), ft_in z3 → R1 (some (.inl z3)) h3 → ((0 ≤ z3 → ((0 ≤ x1 ∧ x1 < 64) ∧ (∀ h4 : ftH, h4 = ft_hs h3 321 x1.toNat z3 → ft_V k_Mo_laysHits 2 [some (.inr (.inr 309)), some (.inl (ft_add x1 1)), none] [] h4 R))) ∧ (¬ (0 ≤ z3) → ((0 ≤ x1 ∧ x1 < 64) ∧ (∀ h5 : ftH, h5 = ft_hs h3 321 x1.toNat 64 → ft_V k_Mo_laysHits 2 [some (.inr (.inr 309)), some (.inl (ft_add x1 1)), none] [] h5 R)))))))))))))) : ft_V k_Mo_laysHits 2 [some (.inr (.inr 309)), some (.inl x1), none] [] h R := by
  refine fv_iload_n (ft_d o_Mo_laysHits 2 rfl) rfl rfl ?_
  refine fv_aload_n (ft_d o_Mo_laysHits 3 rfl) rfl rfl ?_
  refine fv_getI (ft_d o_Mo_laysHits 4 rfl) rfl fl_Mo_236 sh_309 rfl ?_
  refine fv_icmp_ge (tgt := 63) (ft_d o_Mo_laysHits 5 rfl) rfl rfl (fun c => ?_) (fun c => ?_)
  · have w := w.1 c
    refine fv_iconst (ft_d o_Mo_laysHits 38 rfl) rfl rfl ?_
    refine fv_istore_n (L' := [some (.inr (.inr 309)), some (.inl 0), none]) (ft_d o_Mo_laysHits 39 rfl) rfl (Nat.le_of_ble_eq_true rfl) rfl ?_
    exact w
  · have w := w.2 c
    refine fv_aload_n (ft_d o_Mo_laysHits 6 rfl) rfl rfl ?_
    refine fv_getR (b := 322) (ft_d o_Mo_laysHits 7 rfl) rfl fl_Mo_50 sh_309 rfl ly_309_16 ?_
    refine fv_iload_n (ft_d o_Mo_laysHits 8 rfl) rfl rfl ?_
    refine fv_iconst (ft_d o_Mo_laysHits 9 rfl) rfl rfl ?_
    refine fv_iast (ft_d o_Mo_laysHits 10 rfl) rfl sh_322 w.1 ?_
    have w := w.2
    generalize eh1 : ft_hs h 322 x1.toNat 0 = h1
    have w := w h1 eh1.symm
    refine fv_aload_n (ft_d o_Mo_laysHits 11 rfl) rfl rfl ?_
    refine fv_getR (b := 325) (ft_d o_Mo_laysHits 12 rfl) rfl fl_Mo_59 sh_309 rfl ly_309_19 ?_
    refine fv_iload_n (ft_d o_Mo_laysHits 13 rfl) rfl rfl ?_
    refine fv_iconst (ft_d o_Mo_laysHits 14 rfl) rfl rfl ?_
    refine fv_iast (ft_d o_Mo_laysHits 15 rfl) rfl sh_325 w.1 ?_
    have w := w.2
    generalize eh2 : ft_hs h1 325 x1.toNat 2 = h2
    have w := w h2 eh2.symm
    refine fv_aload_n (ft_d o_Mo_laysHits 16 rfl) rfl rfl ?_
    refine fv_aload_n (ft_d o_Mo_laysHits 17 rfl) rfl rfl ?_
    refine fv_getR (b := 318) (ft_d o_Mo_laysHits 18 rfl) rfl fl_Mo_38 sh_309 rfl ly_309_11 ?_
    refine fv_iload_n (ft_d o_Mo_laysHits 19 rfl) rfl rfl ?_
    refine fv_iald (ft_d o_Mo_laysHits 20 rfl) rfl sh_318 w.1 ?_
    have w := w.2
    refine fv_aload_n (ft_d o_Mo_laysHits 21 rfl) rfl rfl ?_
    refine fv_getR (b := 319) (ft_d o_Mo_laysHits 22 rfl) rfl fl_Mo_41 sh_309 rfl ly_309_12 ?_
    refine fv_iload_n (ft_d o_Mo_laysHits 23 rfl) rfl rfl ?_
    refine fv_iald (ft_d o_Mo_laysHits 24 rfl) rfl sh_319 w.1 ?_
    have w := w.2
    obtain ⟨R1, c2, w⟩ := w
    refine fv_calli (st := []) (Or.inl rfl) rfl (ft_mm (pre := [.inl (h2 319 x1.toNat), .inl (h2 318 x1.toNat), .inr (.inr 309)]) rfl) (ft_rnV (K' := k_Mo_entryFor) (As := [.inl (h2 318 x1.toNat), .inl (h2 319 x1.toNat)]) (ft_d o_Mo_laysHits 25 rfl) ml_Mo_265 li_Mo_entryFor.1 li_Mo_entryFor.2 lw_Mo_entryFor ⟨rfl, rfl, Nat.le_of_ble_eq_true rfl, Nat.le_of_ble_eq_true rfl⟩ sh_309 rfl rfl rfl rfl (Nat.le_of_ble_eq_true rfl) c2) (fun z3 h3 hz hw => ?_)
    have w := w z3 h3 hz hw
    refine fv_istore_n (L' := [some (.inr (.inr 309)), some (.inl x1), some (.inl z3)]) (ft_d o_Mo_laysHits 26 rfl) rfl (Nat.le_of_ble_eq_true rfl) rfl ?_
    refine fv_aload_n (ft_d o_Mo_laysHits 27 rfl) rfl rfl ?_
    refine fv_getR (b := 321) (ft_d o_Mo_laysHits 28 rfl) rfl fl_Mo_47 sh_309 rfl ly_309_15 ?_
    refine fv_iload_n (ft_d o_Mo_laysHits 29 rfl) rfl rfl ?_
    refine fv_iload_n (ft_d o_Mo_laysHits 30 rfl) rfl rfl ?_
    refine fv_if_ge (tgt := 55) (ft_d o_Mo_laysHits 31 rfl) rfl rfl (fun c => ?_) (fun c => ?_)
    · have w := w.1 c
      refine fv_iload_n (ft_d o_Mo_laysHits 34 rfl) rfl rfl ?_
      refine fv_iast (ft_d o_Mo_laysHits 35 rfl) rfl sh_321 w.1 ?_
      have w := w.2
      generalize eh4 : ft_hs h3 321 x1.toNat z3 = h4
      have w := w h4 eh4.symm
      refine fv_iinc (L' := [some (.inr (.inr 309)), some (.inl (ft_add x1 1)), some (.inl z3)]) (ft_d o_Mo_laysHits 36 rfl) rfl rfl (Nat.le_of_ble_eq_true rfl) rfl ?_
      refine fv_goto (pc' := 2) (ft_d o_Mo_laysHits 37 rfl) rfl ?_
      refine fv_mask (M := [true, true, false]) rfl ?_
      exact w
    · have w := w.2 c
      refine fv_bipush (ft_d o_Mo_laysHits 32 rfl) rfl rfl ?_
      refine fv_goto (pc' := 56) (ft_d o_Mo_laysHits 33 rfl) rfl ?_
      refine fv_iast (ft_d o_Mo_laysHits 35 rfl) rfl sh_321 w.1 ?_
      have w := w.2
      generalize eh5 : ft_hs h3 321 x1.toNat 64 = h5
      have w := w h5 eh5.symm
      refine fv_iinc (L' := [some (.inr (.inr 309)), some (.inl (ft_add x1 1)), some (.inl z3)]) (ft_d o_Mo_laysHits 36 rfl) rfl rfl (Nat.le_of_ble_eq_true rfl) rfl ?_
      refine fv_goto (pc' := 2) (ft_d o_Mo_laysHits 37 rfl) rfl ?_
      refine fv_mask (M := [true, true, false]) rfl ?_
      exact w
set_option maxRecDepth 20000 in
theorem b_Mo_laysHits_65 {x1 : Int} {h : ftH} {R : Option ftV → ftH → Prop} 
    (w : ((h 310 1 ≤ x1 → R none h) ∧ (¬ (h 310 1 ≤ x1) → ((0 ≤ x1 ∧ x1 < 40) ∧ (∃ R3 : Option ftV → ftH → Prop, ft_C k_Mo_entryFor [.inr (.inr 309), .inl (h 310 (190 + 2 * x1.toNat)), .inl 33] h R3 ∧ ∀ (z5 : Int) (h1 : ftH), ft_in z5 → R3 (some (.inl z5)) h1 → ((z5 < 0 → ft_V k_Mo_laysHits 65 [some (.inr (.inr 309)), some (.inl (ft_add x1 1)), none] [] h1 R) ∧ (¬ (z5 < 0) → ((0 ≤ z5 ∧ z5 < 64) ∧ ((0 ≤ x1 ∧ x1 < 40) ∧ ((0 ≤ z5 ∧ z5 < 64) ∧ (∀ h2 : ftH, h2 = ft_hs h1 322 z5.toNat (ft_add (h1 322 z5.toNat) (h1 310 (191 + 2 * x1.toNat))) → ft_V k_Mo_laysHits 65 [some (.inr (.inr 309)), some (.inl (ft_add x1 1)), none] [] h2 R))))))))))) : ft_V k_Mo_laysHits 65 [some (.inr (.inr 309)), some (.inl x1), none] [] h R := by
  refine fv_iload_n (ft_d o_Mo_laysHits 40 rfl) rfl rfl ?_
  refine fv_aload_n (ft_d o_Mo_laysHits 41 rfl) rfl rfl ?_
  refine fv_getR (b := 310) (ft_d o_Mo_laysHits 42 rfl) rfl fl_Mo_13 sh_309 rfl ly_309_1 ?_
  refine fv_iconst (ft_d o_Mo_laysHits 43 rfl) rfl rfl ?_
  refine fv_ialdj (j := 1) (ft_d o_Mo_laysHits 44 rfl) rfl sh_310 ⟨by decide, by decide⟩ rfl ?_
  refine fv_icmp_ge (tgt := 111) (ft_d o_Mo_laysHits 45 rfl) rfl rfl (fun c => ?_) (fun c => ?_)
  · have w := w.1 c
    exact fv_return (ft_d o_Mo_laysHits 67 rfl) rfl w
  · have w := w.2 c
    refine fv_aload_n (ft_d o_Mo_laysHits 46 rfl) rfl rfl ?_
    refine fv_aload_n (ft_d o_Mo_laysHits 47 rfl) rfl rfl ?_
    refine fv_iload_n (ft_d o_Mo_laysHits 48 rfl) rfl rfl ?_
    refine fv_callif (st := [.inr (.inr 309)]) (z := h 310 (190 + 2 * x1.toNat)) (Or.inl rfl) rfl (ft_mm (pre := [.inl x1, .inr (.inr 309)]) rfl) (ft_rnV (K' := k_Mo_seenAt) (As := [.inl x1]) (ft_d o_Mo_laysHits 49 rfl) ml_Mo_208 li_Mo_seenAt.1 li_Mo_seenAt.2 lw_Mo_seenAt ⟨rfl, rfl, Nat.le_of_ble_eq_true rfl, Nat.le_of_ble_eq_true rfl⟩ sh_309 rfl rfl rfl rfl (Nat.le_of_ble_eq_true rfl) (c_Mo_seenAt w.1)) ?_
    have w := w.2
    refine fv_bipush (ft_d o_Mo_laysHits 50 rfl) rfl rfl ?_
    obtain ⟨R3, c4, w⟩ := w
    refine fv_calli (st := []) (Or.inl rfl) rfl (ft_mm (pre := [.inl 33, .inl (h 310 (190 + 2 * x1.toNat)), .inr (.inr 309)]) rfl) (ft_rnV (K' := k_Mo_entryFor) (As := [.inl (h 310 (190 + 2 * x1.toNat)), .inl 33]) (ft_d o_Mo_laysHits 51 rfl) ml_Mo_265 li_Mo_entryFor.1 li_Mo_entryFor.2 lw_Mo_entryFor ⟨rfl, rfl, Nat.le_of_ble_eq_true rfl, Nat.le_of_ble_eq_true rfl⟩ sh_309 rfl rfl rfl rfl (Nat.le_of_ble_eq_true rfl) c4) (fun z5 h1 hz hw => ?_)
    have w := w z5 h1 hz hw
    refine fv_istore_n (L' := [some (.inr (.inr 309)), some (.inl x1), some (.inl z5)]) (ft_d o_Mo_laysHits 52 rfl) rfl (Nat.le_of_ble_eq_true rfl) rfl ?_
    refine fv_iload_n (ft_d o_Mo_laysHits 53 rfl) rfl rfl ?_
    refine fv_if_lt (tgt := 105) (ft_d o_Mo_laysHits 54 rfl) rfl rfl (fun c => ?_) (fun c => ?_)
    · have w := w.1 c
      refine fv_iinc (L' := [some (.inr (.inr 309)), some (.inl (ft_add x1 1)), some (.inl z5)]) (ft_d o_Mo_laysHits 65 rfl) rfl rfl (Nat.le_of_ble_eq_true rfl) rfl ?_
      refine fv_goto (pc' := 65) (ft_d o_Mo_laysHits 66 rfl) rfl ?_
      refine fv_mask (M := [true, true, false]) rfl ?_
      exact w
    · have w := w.2 c
      refine fv_aload_n (ft_d o_Mo_laysHits 55 rfl) rfl rfl ?_
      refine fv_getR (b := 322) (ft_d o_Mo_laysHits 56 rfl) rfl fl_Mo_50 sh_309 rfl ly_309_16 ?_
      refine fv_iload_n (ft_d o_Mo_laysHits 57 rfl) rfl rfl ?_
      refine fv_dup2 (ft_d o_Mo_laysHits 58 rfl) rfl rfl rfl ?_
      refine fv_iald (ft_d o_Mo_laysHits 59 rfl) rfl sh_322 w.1 ?_
      have w := w.2
      refine fv_aload_n (ft_d o_Mo_laysHits 60 rfl) rfl rfl ?_
      refine fv_iload_n (ft_d o_Mo_laysHits 61 rfl) rfl rfl ?_
      refine fv_callif (st := [.inl (h1 322 z5.toNat), .inl z5, .inr (.inr 322)]) (z := h1 310 (191 + 2 * x1.toNat)) (Or.inl rfl) rfl (ft_mm (pre := [.inl x1, .inr (.inr 309)]) rfl) (ft_rnV (K' := k_Mo_timesAt) (As := [.inl x1]) (ft_d o_Mo_laysHits 62 rfl) ml_Mo_205 li_Mo_timesAt.1 li_Mo_timesAt.2 lw_Mo_timesAt ⟨rfl, rfl, Nat.le_of_ble_eq_true rfl, Nat.le_of_ble_eq_true rfl⟩ sh_309 rfl rfl rfl rfl (Nat.le_of_ble_eq_true rfl) (c_Mo_timesAt w.1)) ?_
      have w := w.2
      refine fv_iadd (ft_d o_Mo_laysHits 63 rfl) rfl ?_
      refine fv_iast (ft_d o_Mo_laysHits 64 rfl) rfl sh_322 w.1 ?_
      have w := w.2
      generalize eh2 : ft_hs h1 322 z5.toNat (ft_add (h1 322 z5.toNat) (h1 310 (191 + 2 * x1.toNat))) = h2
      have w := w h2 eh2.symm
      refine fv_iinc (L' := [some (.inr (.inr 309)), some (.inl (ft_add x1 1)), some (.inl z5)]) (ft_d o_Mo_laysHits 65 rfl) rfl rfl (Nat.le_of_ble_eq_true rfl) rfl ?_
      refine fv_goto (pc' := 65) (ft_d o_Mo_laysHits 66 rfl) rfl ?_
      refine fv_mask (M := [true, true, false]) rfl ?_
      exact w
set_option maxRecDepth 20000 in
theorem b_Mo_laysAll_0  {h : ftH} {R : Option ftV → ftH → Prop} 
    (w : ((h 309 20 = 0 → (∀ h1 : ftH, h1 = ft_hs h 309 20 1 → (∃ R1 : Option ftV → ftH → Prop, ft_C k_Mo_laysEntries [.inr (.inr 309)] h1 R1 ∧ ∀ h2 : ftH, R1 none h2 → (∃ R3 : Option ftV → ftH → Prop, ft_C k_Mo_laysHits [.inr (.inr 309)] h2 R3 ∧ ∀ h3 : ftH, R3 none h3 → (∃ R5 : Option ftV → ftH → Prop, ft_C k_Mo_laysLost [.inr (.inr 309)] h3 R5 ∧ ∀ h4 : ftH, R5 none h4 → (∃ R7 : Option ftV → ftH → Prop, ft_C k_Mo_lostBy [.inr (.inr 309), .inl (h4 310 3)] h4 R7 ∧ ∀ (z9 : Int) (h5 : ftH), ft_in z9 → R7 (some (.inl z9)) h5 → (∀ h6 : ftH, h6 = ft_hs h5 309 21 z9 → (∃ R10 : Option ftV → ftH → Prop, ft_C k_Mo_fewestPlaces [.inr (.inr 309)] h6 R10 ∧ ∀ (z12 : Int) (h7 : ftH), ft_in z12 → R10 (some (.inl z12)) h7 → (∀ h8 : ftH, h8 = ft_hs h7 309 22 z12 → ft_V k_Mo_laysAll 49 [some (.inr (.inr 309)), some (.inl 0)] [] h8 R))))))))) ∧ (¬ (h 309 20 = 0) → R none h))) : ft_V k_Mo_laysAll 0 [some (.inr (.inr 309)), none] [] h R := by
  refine fv_aload_n (ft_d o_Mo_laysAll 0 rfl) rfl rfl ?_
  refine fv_getI (ft_d o_Mo_laysAll 1 rfl) rfl fl_Mo_90 sh_309 rfl ?_
  refine fv_if_eq (tgt := 8) (ft_d o_Mo_laysAll 2 rfl) rfl rfl (fun c => ?_) (fun c => ?_)
  · have w := w.1 c
    refine fv_aload_n (ft_d o_Mo_laysAll 4 rfl) rfl rfl ?_
    refine fv_iconst (ft_d o_Mo_laysAll 5 rfl) rfl rfl ?_
    refine fv_putZ (ft_d o_Mo_laysAll 6 rfl) rfl fl_Mo_90 rfl rfl sh_309 rfl (Or.inr rfl) ?_
    generalize eh1 : ft_hs h 309 20 1 = h1
    have w := w h1 eh1.symm
    refine fv_aload_n (ft_d o_Mo_laysAll 7 rfl) rfl rfl ?_
    obtain ⟨R1, c2, w⟩ := w
    refine fv_callv (st := []) rfl rfl (ft_mm (pre := [.inr (.inr 309)]) rfl) (ft_rnV (K' := k_Mo_laysEntries) (As := []) (ft_d o_Mo_laysAll 8 rfl) ml_Mo_269 li_Mo_laysEntries.1 li_Mo_laysEntries.2 lw_Mo_laysEntries ⟨rfl, rfl, Nat.le_of_ble_eq_true rfl, Nat.le_of_ble_eq_true rfl⟩ sh_309 rfl rfl rfl rfl (Nat.le_of_ble_eq_true rfl) c2) (fun h2 hw => ?_)
    have w := w h2 hw
    refine fv_aload_n (ft_d o_Mo_laysAll 9 rfl) rfl rfl ?_
    obtain ⟨R3, c4, w⟩ := w
    refine fv_callv (st := []) rfl rfl (ft_mm (pre := [.inr (.inr 309)]) rfl) (ft_rnV (K' := k_Mo_laysHits) (As := []) (ft_d o_Mo_laysAll 10 rfl) ml_Mo_272 li_Mo_laysHits.1 li_Mo_laysHits.2 lw_Mo_laysHits ⟨rfl, rfl, Nat.le_of_ble_eq_true rfl, Nat.le_of_ble_eq_true rfl⟩ sh_309 rfl rfl rfl rfl (Nat.le_of_ble_eq_true rfl) c4) (fun h3 hw => ?_)
    have w := w h3 hw
    refine fv_aload_n (ft_d o_Mo_laysAll 11 rfl) rfl rfl ?_
    obtain ⟨R5, c6, w⟩ := w
    refine fv_callv (st := []) rfl rfl (ft_mm (pre := [.inr (.inr 309)]) rfl) (ft_rnV (K' := k_Mo_laysLost) (As := []) (ft_d o_Mo_laysAll 12 rfl) ml_Mo_275 li_Mo_laysLost.1 li_Mo_laysLost.2 lw_Mo_laysLost ⟨rfl, rfl, Nat.le_of_ble_eq_true rfl, Nat.le_of_ble_eq_true rfl⟩ sh_309 rfl rfl rfl rfl (Nat.le_of_ble_eq_true rfl) c6) (fun h4 hw => ?_)
    have w := w h4 hw
    refine fv_aload_n (ft_d o_Mo_laysAll 13 rfl) rfl rfl ?_
    refine fv_aload_n (ft_d o_Mo_laysAll 14 rfl) rfl rfl ?_
    refine fv_aload_n (ft_d o_Mo_laysAll 15 rfl) rfl rfl ?_
    refine fv_getR (b := 310) (ft_d o_Mo_laysAll 16 rfl) rfl fl_Mo_13 sh_309 rfl ly_309_1 ?_
    refine fv_iconst (ft_d o_Mo_laysAll 17 rfl) rfl rfl ?_
    refine fv_ialdj (j := 3) (ft_d o_Mo_laysAll 18 rfl) rfl sh_310 ⟨by decide, by decide⟩ rfl ?_
    obtain ⟨R7, c8, w⟩ := w
    refine fv_calli (st := [.inr (.inr 309)]) (Or.inl rfl) rfl (ft_mm (pre := [.inl (h4 310 3), .inr (.inr 309)]) rfl) (ft_rnV (K' := k_Mo_lostBy) (As := [.inl (h4 310 3)]) (ft_d o_Mo_laysAll 19 rfl) ml_Mo_278 li_Mo_lostBy.1 li_Mo_lostBy.2 lw_Mo_lostBy ⟨rfl, rfl, Nat.le_of_ble_eq_true rfl, Nat.le_of_ble_eq_true rfl⟩ sh_309 rfl rfl rfl rfl (Nat.le_of_ble_eq_true rfl) c8) (fun z9 h5 hz hw => ?_)
    have w := w z9 h5 hz hw
    refine fv_putI (ft_d o_Mo_laysAll 20 rfl) rfl fl_Mo_262 rfl rfl sh_309 rfl ?_
    generalize eh6 : ft_hs h5 309 21 z9 = h6
    have w := w h6 eh6.symm
    refine fv_aload_n (ft_d o_Mo_laysAll 21 rfl) rfl rfl ?_
    refine fv_aload_n (ft_d o_Mo_laysAll 22 rfl) rfl rfl ?_
    obtain ⟨R10, c11, w⟩ := w
    refine fv_calli (st := [.inr (.inr 309)]) (Or.inl rfl) rfl (ft_mm (pre := [.inr (.inr 309)]) rfl) (ft_rnV (K' := k_Mo_fewestPlaces) (As := []) (ft_d o_Mo_laysAll 23 rfl) ml_Mo_281 li_Mo_fewestPlaces.1 li_Mo_fewestPlaces.2 lw_Mo_fewestPlaces ⟨rfl, rfl, Nat.le_of_ble_eq_true rfl, Nat.le_of_ble_eq_true rfl⟩ sh_309 rfl rfl rfl rfl (Nat.le_of_ble_eq_true rfl) c11) (fun z12 h7 hz hw => ?_)
    have w := w z12 h7 hz hw
    refine fv_putI (ft_d o_Mo_laysAll 24 rfl) rfl fl_Mo_284 rfl rfl sh_309 rfl ?_
    generalize eh8 : ft_hs h7 309 22 z12 = h8
    have w := w h8 eh8.symm
    refine fv_iconst (ft_d o_Mo_laysAll 25 rfl) rfl rfl ?_
    refine fv_istore_n (L' := [some (.inr (.inr 309)), some (.inl 0)]) (ft_d o_Mo_laysAll 26 rfl) rfl (Nat.le_of_ble_eq_true rfl) rfl ?_
    exact w
  · have w := w.2 c
    exact fv_return (ft_d o_Mo_laysAll 3 rfl) rfl w
set_option maxRecDepth 20000 in
theorem b_Mo_laysAll_49 {x1 : Int} {h : ftH} {R : Option ftV → ftH → Prop} 
    (w : ((h 309 14 ≤ x1 → R none h) ∧ (¬ (h 309 14 ≤ x1) → ((0 ≤ x1 ∧ x1 < 64) ∧ (∀ h1 : ftH, h1 = ft_hs h 325 x1.toNat 1 → (∃ R1 : Option ftV → ftH → Prop, ft_C k_Mo_laysLost [.inr (.inr 309)] h1 R1 ∧ ∀ h2 : ftH, R1 none h2 → (((0 ≤ (64 : Int) ∧ (64 : Int) ≤ 64) ∧ (0 ≤ (0 : Int) ∧ (0 : Int) ≤ 1) ∧ (0 ≤ (h2 309 22) ∧ (h2 309 22) ≤ 60)) ∧ ((0 ≤ 61 * (2 * (64 : Int) + (0 : Int)) + (h2 309 22) ∧ 61 * (2 * (64 : Int) + (0 : Int)) + (h2 309 22) < 7930) ∧ ((h2 323 (61 * (2 * (64 : Int) + (0 : Int)) + (h2 309 22)).toNat = h2 309 21 → ft_V k_Mo_laysAll 49 [some (.inr (.inr 309)), some (.inl (ft_add x1 1))] [] h2 R) ∧ (¬ (h2 323 (61 * (2 * (64 : Int) + (0 : Int)) + (h2 309 22)).toNat = h2 309 21) → ((0 ≤ x1 ∧ x1 < 64) ∧ (∀ h3 : ftH, h3 = ft_hs h2 325 x1.toNat 0 → ft_V k_Mo_laysAll 49 [some (.inr (.inr 309)), some (.inl (ft_add x1 1))] [] h3 R)))))))))))) : ft_V k_Mo_laysAll 49 [some (.inr (.inr 309)), some (.inl x1)] [] h R := by
  refine fv_iload_n (ft_d o_Mo_laysAll 27 rfl) rfl rfl ?_
  refine fv_aload_n (ft_d o_Mo_laysAll 28 rfl) rfl rfl ?_
  refine fv_getI (ft_d o_Mo_laysAll 29 rfl) rfl fl_Mo_236 sh_309 rfl ?_
  refine fv_icmp_ge (tgt := 103) (ft_d o_Mo_laysAll 30 rfl) rfl rfl (fun c => ?_) (fun c => ?_)
  · have w := w.1 c
    exact fv_return (ft_d o_Mo_laysAll 56 rfl) rfl w
  · have w := w.2 c
    refine fv_aload_n (ft_d o_Mo_laysAll 31 rfl) rfl rfl ?_
    refine fv_getR (b := 325) (ft_d o_Mo_laysAll 32 rfl) rfl fl_Mo_59 sh_309 rfl ly_309_19 ?_
    refine fv_iload_n (ft_d o_Mo_laysAll 33 rfl) rfl rfl ?_
    refine fv_iconst (ft_d o_Mo_laysAll 34 rfl) rfl rfl ?_
    refine fv_iast (ft_d o_Mo_laysAll 35 rfl) rfl sh_325 w.1 ?_
    have w := w.2
    generalize eh1 : ft_hs h 325 x1.toNat 1 = h1
    have w := w h1 eh1.symm
    refine fv_aload_n (ft_d o_Mo_laysAll 36 rfl) rfl rfl ?_
    obtain ⟨R1, c2, w⟩ := w
    refine fv_callv (st := []) rfl rfl (ft_mm (pre := [.inr (.inr 309)]) rfl) (ft_rnV (K' := k_Mo_laysLost) (As := []) (ft_d o_Mo_laysAll 37 rfl) ml_Mo_275 li_Mo_laysLost.1 li_Mo_laysLost.2 lw_Mo_laysLost ⟨rfl, rfl, Nat.le_of_ble_eq_true rfl, Nat.le_of_ble_eq_true rfl⟩ sh_309 rfl rfl rfl rfl (Nat.le_of_ble_eq_true rfl) c2) (fun h2 hw => ?_)
    have w := w h2 hw
    refine fv_aload_n (ft_d o_Mo_laysAll 38 rfl) rfl rfl ?_
    refine fv_getR (b := 323) (ft_d o_Mo_laysAll 39 rfl) rfl fl_Mo_53 sh_309 rfl ly_309_17 ?_
    refine fv_bipush (ft_d o_Mo_laysAll 40 rfl) rfl rfl ?_
    refine fv_iconst (ft_d o_Mo_laysAll 41 rfl) rfl rfl ?_
    refine fv_aload_n (ft_d o_Mo_laysAll 42 rfl) rfl rfl ?_
    refine fv_getI (ft_d o_Mo_laysAll 43 rfl) rfl fl_Mo_284 sh_309 rfl ?_
    refine fv_callif (st := [.inr (.inr 323)]) (z := 61 * (2 * (64 : Int) + (0 : Int)) + (h2 309 22)) (Or.inl rfl) rfl (ft_mm (pre := [.inl (h2 309 22), .inl 0, .inl 64]) rfl) (ft_rnS (K' := k_Mo_at) (As := [.inl 64, .inl 0, .inl (h2 309 22)]) (ft_d o_Mo_laysAll 44 rfl) ml_Mo_248 lz_Mo_at rfl lw_Mo_at ⟨rfl, rfl, Nat.le_of_ble_eq_true rfl, Nat.le_of_ble_eq_true rfl⟩ rfl rfl (Nat.le_of_ble_eq_true rfl) (c_Mo_at w.1)) ?_
    have w := w.2
    refine fv_iald (ft_d o_Mo_laysAll 45 rfl) rfl sh_323 w.1 ?_
    have w := w.2
    refine fv_aload_n (ft_d o_Mo_laysAll 46 rfl) rfl rfl ?_
    refine fv_getI (ft_d o_Mo_laysAll 47 rfl) rfl fl_Mo_262 sh_309 rfl ?_
    refine fv_icmp_eq (tgt := 97) (ft_d o_Mo_laysAll 48 rfl) rfl rfl (fun c => ?_) (fun c => ?_)
    · have w := w.1 c
      refine fv_iinc (L' := [some (.inr (.inr 309)), some (.inl (ft_add x1 1))]) (ft_d o_Mo_laysAll 54 rfl) rfl rfl (Nat.le_of_ble_eq_true rfl) rfl ?_
      refine fv_goto (pc' := 49) (ft_d o_Mo_laysAll 55 rfl) rfl ?_
      exact w
    · have w := w.2 c
      refine fv_aload_n (ft_d o_Mo_laysAll 49 rfl) rfl rfl ?_
      refine fv_getR (b := 325) (ft_d o_Mo_laysAll 50 rfl) rfl fl_Mo_59 sh_309 rfl ly_309_19 ?_
      refine fv_iload_n (ft_d o_Mo_laysAll 51 rfl) rfl rfl ?_
      refine fv_iconst (ft_d o_Mo_laysAll 52 rfl) rfl rfl ?_
      refine fv_iast (ft_d o_Mo_laysAll 53 rfl) rfl sh_325 w.1 ?_
      have w := w.2
      generalize eh3 : ft_hs h2 325 x1.toNat 0 = h3
      have w := w h3 eh3.symm
      refine fv_iinc (L' := [some (.inr (.inr 309)), some (.inl (ft_add x1 1))]) (ft_d o_Mo_laysAll 54 rfl) rfl rfl (Nat.le_of_ble_eq_true rfl) rfl ?_
      refine fv_goto (pc' := 49) (ft_d o_Mo_laysAll 55 rfl) rfl ?_
      exact w
set_option maxRecDepth 20000 in
theorem b_Mo_laysOpen_0  {h : ftH} {R : Option ftV → ftH → Prop} 
    (w : (∃ R1 : Option ftV → ftH → Prop, ft_C k_Mo_laysAll [.inr (.inr 309)] h R1 ∧ ∀ h1 : ftH, R1 none h1 → (∀ h2 : ftH, h2 = ft_hs h1 309 20 0 → ft_V k_Mo_laysOpen 11 [some (.inr (.inr 309)), some (.inl 0)] [] h2 R))) : ft_V k_Mo_laysOpen 0 [some (.inr (.inr 309)), none] [] h R := by
  refine fv_aload_n (ft_d o_Mo_laysOpen 0 rfl) rfl rfl ?_
  obtain ⟨R1, c2, w⟩ := w
  refine fv_callv (st := []) rfl rfl (ft_mm (pre := [.inr (.inr 309)]) rfl) (ft_rnV (K' := k_Mo_laysAll) (As := []) (ft_d o_Mo_laysOpen 1 rfl) ml_Mo_287 li_Mo_laysAll.1 li_Mo_laysAll.2 lw_Mo_laysAll ⟨rfl, rfl, Nat.le_of_ble_eq_true rfl, Nat.le_of_ble_eq_true rfl⟩ sh_309 rfl rfl rfl rfl (Nat.le_of_ble_eq_true rfl) c2) (fun h1 hw => ?_)
  have w := w h1 hw
  refine fv_aload_n (ft_d o_Mo_laysOpen 2 rfl) rfl rfl ?_
  refine fv_iconst (ft_d o_Mo_laysOpen 3 rfl) rfl rfl ?_
  refine fv_putZ (ft_d o_Mo_laysOpen 4 rfl) rfl fl_Mo_90 rfl rfl sh_309 rfl (Or.inl rfl) ?_
  generalize eh2 : ft_hs h1 309 20 0 = h2
  have w := w h2 eh2.symm
  refine fv_iconst (ft_d o_Mo_laysOpen 5 rfl) rfl rfl ?_
  refine fv_istore_n (L' := [some (.inr (.inr 309)), some (.inl 0)]) (ft_d o_Mo_laysOpen 6 rfl) rfl (Nat.le_of_ble_eq_true rfl) rfl ?_
  exact w
set_option maxRecDepth 20000 in
theorem b_Mo_laysOpen_11 {x1 : Int} {h : ftH} {R : Option ftV → ftH → Prop} 
    (w : ((h 309 14 ≤ x1 → (∃ R1 : Option ftV → ftH → Prop, ft_C k_Mo_laysLost [.inr (.inr 309)] h R1 ∧ ∀ h1 : ftH, R1 none h1 → R none h1)) ∧ (¬ (h 309 14 ≤ x1) → ((0 ≤ x1 ∧ x1 < 64) ∧ (∀ h2 : ftH, h2 = ft_hs h 325 x1.toNat 2 → ft_V k_Mo_laysOpen 11 [some (.inr (.inr 309)), some (.inl (ft_add x1 1))] [] h2 R))))) : ft_V k_Mo_laysOpen 11 [some (.inr (.inr 309)), some (.inl x1)] [] h R := by
  refine fv_iload_n (ft_d o_Mo_laysOpen 7 rfl) rfl rfl ?_
  refine fv_aload_n (ft_d o_Mo_laysOpen 8 rfl) rfl rfl ?_
  refine fv_getI (ft_d o_Mo_laysOpen 9 rfl) rfl fl_Mo_236 sh_309 rfl ?_
  refine fv_icmp_ge (tgt := 32) (ft_d o_Mo_laysOpen 10 rfl) rfl rfl (fun c => ?_) (fun c => ?_)
  · have w := w.1 c
    refine fv_aload_n (ft_d o_Mo_laysOpen 18 rfl) rfl rfl ?_
    obtain ⟨R1, c2, w⟩ := w
    refine fv_callv (st := []) rfl rfl (ft_mm (pre := [.inr (.inr 309)]) rfl) (ft_rnV (K' := k_Mo_laysLost) (As := []) (ft_d o_Mo_laysOpen 19 rfl) ml_Mo_275 li_Mo_laysLost.1 li_Mo_laysLost.2 lw_Mo_laysLost ⟨rfl, rfl, Nat.le_of_ble_eq_true rfl, Nat.le_of_ble_eq_true rfl⟩ sh_309 rfl rfl rfl rfl (Nat.le_of_ble_eq_true rfl) c2) (fun h1 hw => ?_)
    have w := w h1 hw
    exact fv_return (ft_d o_Mo_laysOpen 20 rfl) rfl w
  · have w := w.2 c
    refine fv_aload_n (ft_d o_Mo_laysOpen 11 rfl) rfl rfl ?_
    refine fv_getR (b := 325) (ft_d o_Mo_laysOpen 12 rfl) rfl fl_Mo_59 sh_309 rfl ly_309_19 ?_
    refine fv_iload_n (ft_d o_Mo_laysOpen 13 rfl) rfl rfl ?_
    refine fv_iconst (ft_d o_Mo_laysOpen 14 rfl) rfl rfl ?_
    refine fv_iast (ft_d o_Mo_laysOpen 15 rfl) rfl sh_325 w.1 ?_
    have w := w.2
    generalize eh2 : ft_hs h 325 x1.toNat 2 = h2
    have w := w h2 eh2.symm
    refine fv_iinc (L' := [some (.inr (.inr 309)), some (.inl (ft_add x1 1))]) (ft_d o_Mo_laysOpen 16 rfl) rfl rfl (Nat.le_of_ble_eq_true rfl) rfl ?_
    refine fv_goto (pc' := 11) (ft_d o_Mo_laysOpen 17 rfl) rfl ?_
    exact w
set_option maxRecDepth 20000 in
theorem b_Mo_compressed_0  {h : ftH} {R : Option ftV → ftH → Prop} 
    (w : (∃ R1 : Option ftV → ftH → Prop, ft_C k_Mo_laysAll [.inr (.inr 309)] h R1 ∧ ∀ h1 : ftH, R1 none h1 → R (some (.inl (h1 309 14))) h1)) : ft_V k_Mo_compressed 0 [some (.inr (.inr 309))] [] h R := by
  refine fv_aload_n (ft_d o_Mo_compressed 0 rfl) rfl rfl ?_
  obtain ⟨R1, c2, w⟩ := w
  refine fv_callv (st := []) rfl rfl (ft_mm (pre := [.inr (.inr 309)]) rfl) (ft_rnV (K' := k_Mo_laysAll) (As := []) (ft_d o_Mo_compressed 1 rfl) ml_Mo_287 li_Mo_laysAll.1 li_Mo_laysAll.2 lw_Mo_laysAll ⟨rfl, rfl, Nat.le_of_ble_eq_true rfl, Nat.le_of_ble_eq_true rfl⟩ sh_309 rfl rfl rfl rfl (Nat.le_of_ble_eq_true rfl) c2) (fun h1 hw => ?_)
  have w := w h1 hw
  refine fv_aload_n (ft_d o_Mo_compressed 2 rfl) rfl rfl ?_
  refine fv_getI (ft_d o_Mo_compressed 3 rfl) rfl fl_Mo_236 sh_309 rfl ?_
  exact fv_ireturn (ft_d o_Mo_compressed 4 rfl) rfl w
set_option maxRecDepth 20000 in
theorem b_Mo_entry_0 {x1 : Int} {x2 : Int} {h : ftH} {R : Option ftV → ftH → Prop} 
    (w : ((x1 < 0 → R (some (.inr (.inl ((-1))))) h) ∧ (¬ (x1 < 0) → (((0 : Int) ≤ x2 ∧ x2 ≤ (5 : Int) → (∃ R3 : Option ftV → ftH → Prop, ft_C k_Mo_laysAll [.inr (.inr 309)] h R3 ∧ ∀ h1 : ftH, R3 none h1 → ((x1 < h1 309 14 → (((x2 < 0 ∨ 4 < x2) → ((0 ≤ x1 ∧ x1 < 64) ∧ R (some (.inr (.inl (h1 325 x1.toNat)))) h1)) ∧ (x2 = 0 → ((0 ≤ x1 ∧ x1 < 64) ∧ R (some (.inr (.inl (pUn (h1 318 x1.toNat))))) h1)) ∧ (x2 = 1 → ((0 ≤ x1 ∧ x1 < 64) ∧ R (some (.inr (.inl (h1 319 x1.toNat)))) h1)) ∧ (x2 = 2 → ((0 ≤ x1 ∧ x1 < 64) ∧ R (some (.inr (.inl (h1 320 x1.toNat)))) h1)) ∧ (x2 = 3 → ((0 ≤ x1 ∧ x1 < 64) ∧ ((¬ (h1 321 x1.toNat = 64) → ((0 ≤ x1 ∧ x1 < 64) ∧ R (some (.inr (.inl (h1 321 x1.toNat)))) h1)) ∧ (h1 321 x1.toNat = 64 → R (some (.inr (.inl ((-2))))) h1)))) ∧ (x2 = 4 → ((0 ≤ x1 ∧ x1 < 64) ∧ R (some (.inr (.inl (h1 322 x1.toNat)))) h1)))) ∧ (¬ (x1 < h1 309 14) → R (some (.inr (.inl ((-2))))) h1)))) ∧ (¬ ((0 : Int) ≤ x2 ∧ x2 ≤ (5 : Int)) → R (some (.inr (.inl ((-1))))) h))))) : ft_V k_Mo_entry 0 [some (.inr (.inr 309)), some (.inl x1), some (.inl x2)] [] h R := by
  refine fv_iload_n (ft_d o_Mo_entry 0 rfl) rfl rfl ?_
  refine fv_if_lt (tgt := 16) (ft_d o_Mo_entry 1 rfl) rfl rfl (fun c => ?_) (fun c => ?_)
  · have w := w.1 c
    refine fv_ldc2 (v := (-1)) (z := (-1)) (ft_d o_Mo_entry 8 rfl) rfl (ft_gt 1202 (by decide +kernel) rfl) rfl ?_
    exact fv_lreturn (ft_d o_Mo_entry 9 rfl) rfl w
  · have w := w.2 c
    refine fv_iload_n (ft_d o_Mo_entry 2 rfl) rfl rfl ?_
    refine fv_i2l (ft_d o_Mo_entry 3 rfl) rfl ?_
    refine fv_lconst (z := 0) (ft_d o_Mo_entry 4 rfl) rfl rfl ?_
    refine fv_ldc2 (v := 5) (z := 5) (ft_d o_Mo_entry 5 rfl) rfl (ft_gt 1447 (by decide +kernel) rfl) rfl ?_
    refine fv_callif (st := []) (z := (if (0 : Int) ≤ x2 ∧ x2 ≤ (5 : Int) then 1 else 0)) (Or.inr rfl) rfl (ft_mm (pre := [.inr (.inl 5), .inr (.inl 0), .inr (.inl x2)]) rfl) (ft_rnS (K' := k_Mo_in) (As := [.inr (.inl x2), .inr (.inl 0), .inr (.inl 5)]) (ft_d o_Mo_entry 6 rfl) ml_Mo_106 lz_Mo_in rfl lw_Mo_in ⟨rfl, rfl, Nat.le_of_ble_eq_true rfl, Nat.le_of_ble_eq_true rfl⟩ rfl rfl (Nat.le_of_ble_eq_true rfl) (c_Mo_in)) ?_
    refine fv_if_ne (tgt := 20) (ft_d o_Mo_entry 7 rfl) rfl rfl (fun c => ?_) (fun c => ?_)
    · have w := w.1 (ft_if1.mp c)
      refine fv_aload_n (ft_d o_Mo_entry 10 rfl) rfl rfl ?_
      obtain ⟨R3, c4, w⟩ := w
      refine fv_callv (st := []) rfl rfl (ft_mm (pre := [.inr (.inr 309)]) rfl) (ft_rnV (K' := k_Mo_laysAll) (As := []) (ft_d o_Mo_entry 11 rfl) ml_Mo_287 li_Mo_laysAll.1 li_Mo_laysAll.2 lw_Mo_laysAll ⟨rfl, rfl, Nat.le_of_ble_eq_true rfl, Nat.le_of_ble_eq_true rfl⟩ sh_309 rfl rfl rfl rfl (Nat.le_of_ble_eq_true rfl) c4) (fun h1 hw => ?_)
      have w := w h1 hw
      refine fv_iload_n (ft_d o_Mo_entry 12 rfl) rfl rfl ?_
      refine fv_aload_n (ft_d o_Mo_entry 13 rfl) rfl rfl ?_
      refine fv_getI (ft_d o_Mo_entry 14 rfl) rfl fl_Mo_236 sh_309 rfl ?_
      refine fv_icmp_lt (tgt := 36) (ft_d o_Mo_entry 15 rfl) rfl rfl (fun c => ?_) (fun c => ?_)
      · have w := w.1 c
        refine fv_iload_n (ft_d o_Mo_entry 18 rfl) rfl rfl ?_
        rcases (by omega : (x2 < 0 ∨ 4 < x2) ∨ x2 = 0 ∨ x2 = 1 ∨ x2 = 2 ∨ x2 = 3 ∨ x2 = 4) with c | c | c | c | c | c
        · have w := w.1 c
          refine fv_tswOut (pc' := 131) (ft_d o_Mo_entry 19 rfl) c rfl ?_
          refine fv_aload_n (ft_d o_Mo_entry 58 rfl) rfl rfl ?_
          refine fv_getR (b := 325) (ft_d o_Mo_entry 59 rfl) rfl fl_Mo_59 sh_309 rfl ly_309_19 ?_
          refine fv_iload_n (ft_d o_Mo_entry 60 rfl) rfl rfl ?_
          refine fv_iald (ft_d o_Mo_entry 61 rfl) rfl sh_325 w.1 ?_
          have w := w.2
          refine fv_i2l (ft_d o_Mo_entry 62 rfl) rfl ?_
          exact fv_lreturn (ft_d o_Mo_entry 63 rfl) rfl w
        · have w := w.2.1 c
          refine fv_tswIn (pc' := 72) (ft_d o_Mo_entry 19 rfl) (by omega) (by omega) (by rw [c]; rfl) rfl ?_
          refine fv_aload_n (ft_d o_Mo_entry 20 rfl) rfl rfl ?_
          refine fv_getR (b := 318) (ft_d o_Mo_entry 21 rfl) rfl fl_Mo_38 sh_309 rfl ly_309_11 ?_
          refine fv_iload_n (ft_d o_Mo_entry 22 rfl) rfl rfl ?_
          refine fv_iald (ft_d o_Mo_entry 23 rfl) rfl sh_318 w.1 ?_
          have w := w.2
          refine fv_calllf (st := []) (z := pUn (h1 318 x1.toNat)) rfl rfl (ft_mm (pre := [.inl (h1 318 x1.toNat)]) rfl) (ft_rnS (K' := k_Mo_unsigned) (As := [.inl (h1 318 x1.toNat)]) (ft_d o_Mo_entry 24 rfl) ml_Mo_100 lz_Mo_unsigned rfl lw_Mo_unsigned ⟨rfl, rfl, Nat.le_of_ble_eq_true rfl, Nat.le_of_ble_eq_true rfl⟩ rfl rfl (Nat.le_of_ble_eq_true rfl) (c_Mo_unsigned)) ?_
          exact fv_lreturn (ft_d o_Mo_entry 25 rfl) rfl w
        · have w := w.2.2.1 c
          refine fv_tswIn (pc' := 82) (ft_d o_Mo_entry 19 rfl) (by omega) (by omega) (by rw [c]; rfl) rfl ?_
          refine fv_aload_n (ft_d o_Mo_entry 26 rfl) rfl rfl ?_
          refine fv_getR (b := 319) (ft_d o_Mo_entry 27 rfl) rfl fl_Mo_41 sh_309 rfl ly_309_12 ?_
          refine fv_iload_n (ft_d o_Mo_entry 28 rfl) rfl rfl ?_
          refine fv_iald (ft_d o_Mo_entry 29 rfl) rfl sh_319 w.1 ?_
          have w := w.2
          refine fv_i2l (ft_d o_Mo_entry 30 rfl) rfl ?_
          exact fv_lreturn (ft_d o_Mo_entry 31 rfl) rfl w
        · have w := w.2.2.2.1 c
          refine fv_tswIn (pc' := 90) (ft_d o_Mo_entry 19 rfl) (by omega) (by omega) (by rw [c]; rfl) rfl ?_
          refine fv_aload_n (ft_d o_Mo_entry 32 rfl) rfl rfl ?_
          refine fv_getR (b := 320) (ft_d o_Mo_entry 33 rfl) rfl fl_Mo_44 sh_309 rfl ly_309_13 ?_
          refine fv_iload_n (ft_d o_Mo_entry 34 rfl) rfl rfl ?_
          refine fv_iald (ft_d o_Mo_entry 35 rfl) rfl sh_320 w.1 ?_
          have w := w.2
          refine fv_i2l (ft_d o_Mo_entry 36 rfl) rfl ?_
          exact fv_lreturn (ft_d o_Mo_entry 37 rfl) rfl w
        · have w := w.2.2.2.2.1 c
          refine fv_tswIn (pc' := 98) (ft_d o_Mo_entry 19 rfl) (by omega) (by omega) (by rw [c]; rfl) rfl ?_
          refine fv_aload_n (ft_d o_Mo_entry 38 rfl) rfl rfl ?_
          refine fv_getR (b := 321) (ft_d o_Mo_entry 39 rfl) rfl fl_Mo_47 sh_309 rfl ly_309_15 ?_
          refine fv_iload_n (ft_d o_Mo_entry 40 rfl) rfl rfl ?_
          refine fv_iald (ft_d o_Mo_entry 41 rfl) rfl sh_321 w.1 ?_
          have w := w.2
          refine fv_bipush (ft_d o_Mo_entry 42 rfl) rfl rfl ?_
          refine fv_icmp_ne (tgt := 115) (ft_d o_Mo_entry 43 rfl) rfl rfl (fun c => ?_) (fun c => ?_)
          · have w := w.1 c
            refine fv_aload_n (ft_d o_Mo_entry 46 rfl) rfl rfl ?_
            refine fv_getR (b := 321) (ft_d o_Mo_entry 47 rfl) rfl fl_Mo_47 sh_309 rfl ly_309_15 ?_
            refine fv_iload_n (ft_d o_Mo_entry 48 rfl) rfl rfl ?_
            refine fv_iald (ft_d o_Mo_entry 49 rfl) rfl sh_321 w.1 ?_
            have w := w.2
            refine fv_i2l (ft_d o_Mo_entry 50 rfl) rfl ?_
            exact fv_lreturn (ft_d o_Mo_entry 51 rfl) rfl w
          · have w := w.2 c
            refine fv_ldc2 (v := (-2)) (z := (-2)) (ft_d o_Mo_entry 44 rfl) rfl (ft_gt 1207 (by decide +kernel) rfl) rfl ?_
            refine fv_goto (pc' := 122) (ft_d o_Mo_entry 45 rfl) rfl ?_
            exact fv_lreturn (ft_d o_Mo_entry 51 rfl) rfl w
        · have w := w.2.2.2.2.2 c
          refine fv_tswIn (pc' := 123) (ft_d o_Mo_entry 19 rfl) (by omega) (by omega) (by rw [c]; rfl) rfl ?_
          refine fv_aload_n (ft_d o_Mo_entry 52 rfl) rfl rfl ?_
          refine fv_getR (b := 322) (ft_d o_Mo_entry 53 rfl) rfl fl_Mo_50 sh_309 rfl ly_309_16 ?_
          refine fv_iload_n (ft_d o_Mo_entry 54 rfl) rfl rfl ?_
          refine fv_iald (ft_d o_Mo_entry 55 rfl) rfl sh_322 w.1 ?_
          have w := w.2
          refine fv_i2l (ft_d o_Mo_entry 56 rfl) rfl ?_
          exact fv_lreturn (ft_d o_Mo_entry 57 rfl) rfl w
      · have w := w.2 c
        refine fv_ldc2 (v := (-2)) (z := (-2)) (ft_d o_Mo_entry 16 rfl) rfl (ft_gt 1207 (by decide +kernel) rfl) rfl ?_
        exact fv_lreturn (ft_d o_Mo_entry 17 rfl) rfl w
    · have w := w.2 (ft_if0.mp c)
      refine fv_ldc2 (v := (-1)) (z := (-1)) (ft_d o_Mo_entry 8 rfl) rfl (ft_gt 1202 (by decide +kernel) rfl) rfl ?_
      exact fv_lreturn (ft_d o_Mo_entry 9 rfl) rfl w
set_option maxRecDepth 20000 in
theorem b_Mo_busiest_0  {h : ftH} {R : Option ftV → ftH → Prop} 
    (w : (∃ R1 : Option ftV → ftH → Prop, ft_C k_Mo_laysAll [.inr (.inr 309)] h R1 ∧ ∀ h1 : ftH, R1 none h1 → (∀ n3 : Int, n3 = (-2) → ft_V k_Mo_busiest 9 [some (.inr (.inr 309)), some (.inl n3), some (.inl 0)] [] h1 R))) : ft_V k_Mo_busiest 0 [some (.inr (.inr 309)), none, none] [] h R := by
  refine fv_aload_n (ft_d o_Mo_busiest 0 rfl) rfl rfl ?_
  obtain ⟨R1, c2, w⟩ := w
  refine fv_callv (st := []) rfl rfl (ft_mm (pre := [.inr (.inr 309)]) rfl) (ft_rnV (K' := k_Mo_laysAll) (As := []) (ft_d o_Mo_busiest 1 rfl) ml_Mo_287 li_Mo_laysAll.1 li_Mo_laysAll.2 lw_Mo_laysAll ⟨rfl, rfl, Nat.le_of_ble_eq_true rfl, Nat.le_of_ble_eq_true rfl⟩ sh_309 rfl rfl rfl rfl (Nat.le_of_ble_eq_true rfl) c2) (fun h1 hw => ?_)
  have w := w h1 hw
  refine fv_bipush (ft_d o_Mo_busiest 2 rfl) rfl rfl ?_
  generalize en3 : (-2) = n3
  have w := w n3 en3.symm
  refine fv_istore_n (L' := [some (.inr (.inr 309)), some (.inl n3), none]) (ft_d o_Mo_busiest 3 rfl) rfl (Nat.le_of_ble_eq_true rfl) rfl ?_
  refine fv_iconst (ft_d o_Mo_busiest 4 rfl) rfl rfl ?_
  refine fv_istore_n (L' := [some (.inr (.inr 309)), some (.inl n3), some (.inl 0)]) (ft_d o_Mo_busiest 5 rfl) rfl (Nat.le_of_ble_eq_true rfl) rfl ?_
  exact w
set_option maxRecDepth 20000 in
theorem b_Mo_busiest_9 {x1 : Int} {x2 : Int} {h : ftH} {R : Option ftV → ftH → Prop} 
    (w : ((h 309 14 ≤ x2 → R (some (.inl x1)) h) ∧ (¬ (h 309 14 ≤ x2) → ((0 ≤ x2 ∧ x2 < 64) ∧ ((0 ≤ x1 → ((0 ≤ x1 ∧ x1 < 64) ∧ ((h 322 x2.toNat ≤ h 322 x1.toNat → ft_V k_Mo_busiest 9 [some (.inr (.inr 309)), some (.inl x1), some (.inl (ft_add x2 1))] [] h R) ∧ (¬ (h 322 x2.toNat ≤ h 322 x1.toNat) → ft_V k_Mo_busiest 9 [some (.inr (.inr 309)), some (.inl x2), some (.inl (ft_add x2 1))] [] h R)))) ∧ (¬ (0 ≤ x1) → ((h 322 x2.toNat ≤ 0 → ft_V k_Mo_busiest 9 [some (.inr (.inr 309)), some (.inl x1), some (.inl (ft_add x2 1))] [] h R) ∧ (¬ (h 322 x2.toNat ≤ 0) → ft_V k_Mo_busiest 9 [some (.inr (.inr 309)), some (.inl x2), some (.inl (ft_add x2 1))] [] h R)))))))) : ft_V k_Mo_busiest 9 [some (.inr (.inr 309)), some (.inl x1), some (.inl x2)] [] h R := by
  refine fv_iload_n (ft_d o_Mo_busiest 6 rfl) rfl rfl ?_
  refine fv_aload_n (ft_d o_Mo_busiest 7 rfl) rfl rfl ?_
  refine fv_getI (ft_d o_Mo_busiest 8 rfl) rfl fl_Mo_236 sh_309 rfl ?_
  refine fv_icmp_ge (tgt := 48) (ft_d o_Mo_busiest 9 rfl) rfl rfl (fun c => ?_) (fun c => ?_)
  · have w := w.1 c
    refine fv_iload_n (ft_d o_Mo_busiest 27 rfl) rfl rfl ?_
    exact fv_ireturn (ft_d o_Mo_busiest 28 rfl) rfl w
  · have w := w.2 c
    refine fv_aload_n (ft_d o_Mo_busiest 10 rfl) rfl rfl ?_
    refine fv_getR (b := 322) (ft_d o_Mo_busiest 11 rfl) rfl fl_Mo_50 sh_309 rfl ly_309_16 ?_
    refine fv_iload_n (ft_d o_Mo_busiest 12 rfl) rfl rfl ?_
    refine fv_iald (ft_d o_Mo_busiest 13 rfl) rfl sh_322 w.1 ?_
    have w := w.2
    refine fv_iload_n (ft_d o_Mo_busiest 14 rfl) rfl rfl ?_
    refine fv_if_ge (tgt := 31) (ft_d o_Mo_busiest 15 rfl) rfl rfl (fun c => ?_) (fun c => ?_)
    · have w := w.1 c
      refine fv_aload_n (ft_d o_Mo_busiest 18 rfl) rfl rfl ?_
      refine fv_getR (b := 322) (ft_d o_Mo_busiest 19 rfl) rfl fl_Mo_50 sh_309 rfl ly_309_16 ?_
      refine fv_iload_n (ft_d o_Mo_busiest 20 rfl) rfl rfl ?_
      refine fv_iald (ft_d o_Mo_busiest 21 rfl) rfl sh_322 w.1 ?_
      have w := w.2
      refine fv_icmp_le (tgt := 42) (ft_d o_Mo_busiest 22 rfl) rfl rfl (fun c => ?_) (fun c => ?_)
      · have w := w.1 c
        refine fv_iinc (L' := [some (.inr (.inr 309)), some (.inl x1), some (.inl (ft_add x2 1))]) (ft_d o_Mo_busiest 25 rfl) rfl rfl (Nat.le_of_ble_eq_true rfl) rfl ?_
        refine fv_goto (pc' := 9) (ft_d o_Mo_busiest 26 rfl) rfl ?_
        exact w
      · have w := w.2 c
        refine fv_iload_n (ft_d o_Mo_busiest 23 rfl) rfl rfl ?_
        refine fv_istore_n (L' := [some (.inr (.inr 309)), some (.inl x2), some (.inl x2)]) (ft_d o_Mo_busiest 24 rfl) rfl (Nat.le_of_ble_eq_true rfl) rfl ?_
        refine fv_iinc (L' := [some (.inr (.inr 309)), some (.inl x2), some (.inl (ft_add x2 1))]) (ft_d o_Mo_busiest 25 rfl) rfl rfl (Nat.le_of_ble_eq_true rfl) rfl ?_
        refine fv_goto (pc' := 9) (ft_d o_Mo_busiest 26 rfl) rfl ?_
        exact w
    · have w := w.2 c
      refine fv_iconst (ft_d o_Mo_busiest 16 rfl) rfl rfl ?_
      refine fv_goto (pc' := 37) (ft_d o_Mo_busiest 17 rfl) rfl ?_
      refine fv_icmp_le (tgt := 42) (ft_d o_Mo_busiest 22 rfl) rfl rfl (fun c => ?_) (fun c => ?_)
      · have w := w.1 c
        refine fv_iinc (L' := [some (.inr (.inr 309)), some (.inl x1), some (.inl (ft_add x2 1))]) (ft_d o_Mo_busiest 25 rfl) rfl rfl (Nat.le_of_ble_eq_true rfl) rfl ?_
        refine fv_goto (pc' := 9) (ft_d o_Mo_busiest 26 rfl) rfl ?_
        exact w
      · have w := w.2 c
        refine fv_iload_n (ft_d o_Mo_busiest 23 rfl) rfl rfl ?_
        refine fv_istore_n (L' := [some (.inr (.inr 309)), some (.inl x2), some (.inl x2)]) (ft_d o_Mo_busiest 24 rfl) rfl (Nat.le_of_ble_eq_true rfl) rfl ?_
        refine fv_iinc (L' := [some (.inr (.inr 309)), some (.inl x2), some (.inl (ft_add x2 1))]) (ft_d o_Mo_busiest 25 rfl) rfl rfl (Nat.le_of_ble_eq_true rfl) rfl ?_
        refine fv_goto (pc' := 9) (ft_d o_Mo_busiest 26 rfl) rfl ?_
        exact w
set_option maxRecDepth 20000 in
theorem b_Mo_coldest_0  {h : ftH} {R : Option ftV → ftH → Prop} 
    (w : (∃ R1 : Option ftV → ftH → Prop, ft_C k_Mo_laysAll [.inr (.inr 309)] h R1 ∧ ∀ h1 : ftH, R1 none h1 → (∀ n3 : Int, n3 = (-2) → ft_V k_Mo_coldest 9 [some (.inr (.inr 309)), some (.inl n3), some (.inl 0)] [] h1 R))) : ft_V k_Mo_coldest 0 [some (.inr (.inr 309)), none, none] [] h R := by
  refine fv_aload_n (ft_d o_Mo_coldest 0 rfl) rfl rfl ?_
  obtain ⟨R1, c2, w⟩ := w
  refine fv_callv (st := []) rfl rfl (ft_mm (pre := [.inr (.inr 309)]) rfl) (ft_rnV (K' := k_Mo_laysAll) (As := []) (ft_d o_Mo_coldest 1 rfl) ml_Mo_287 li_Mo_laysAll.1 li_Mo_laysAll.2 lw_Mo_laysAll ⟨rfl, rfl, Nat.le_of_ble_eq_true rfl, Nat.le_of_ble_eq_true rfl⟩ sh_309 rfl rfl rfl rfl (Nat.le_of_ble_eq_true rfl) c2) (fun h1 hw => ?_)
  have w := w h1 hw
  refine fv_bipush (ft_d o_Mo_coldest 2 rfl) rfl rfl ?_
  generalize en3 : (-2) = n3
  have w := w n3 en3.symm
  refine fv_istore_n (L' := [some (.inr (.inr 309)), some (.inl n3), none]) (ft_d o_Mo_coldest 3 rfl) rfl (Nat.le_of_ble_eq_true rfl) rfl ?_
  refine fv_iconst (ft_d o_Mo_coldest 4 rfl) rfl rfl ?_
  refine fv_istore_n (L' := [some (.inr (.inr 309)), some (.inl n3), some (.inl 0)]) (ft_d o_Mo_coldest 5 rfl) rfl (Nat.le_of_ble_eq_true rfl) rfl ?_
  exact w
set_option maxRecDepth 20000 in
theorem b_Mo_coldest_9 {x1 : Int} {x2 : Int} {h : ftH} {R : Option ftV → ftH → Prop} 
    (w : ((h 309 14 ≤ x2 → R (some (.inl x1)) h) ∧ (¬ (h 309 14 ≤ x2) → ((0 ≤ x2 ∧ x2 < 64) ∧ ((¬ (h 325 x2.toNat = 1) → ft_V k_Mo_coldest 9 [some (.inr (.inr 309)), some (.inl x1), some (.inl (ft_add x2 1))] [] h R) ∧ (h 325 x2.toNat = 1 → ((x1 < 0 → ft_V k_Mo_coldest 9 [some (.inr (.inr 309)), some (.inl x2), some (.inl (ft_add x2 1))] [] h R) ∧ (¬ (x1 < 0) → ((0 ≤ x2 ∧ x2 < 64) ∧ ((0 ≤ x1 ∧ x1 < 64) ∧ ((h 322 x1.toNat ≤ h 322 x2.toNat → ft_V k_Mo_coldest 9 [some (.inr (.inr 309)), some (.inl x1), some (.inl (ft_add x2 1))] [] h R) ∧ (¬ (h 322 x1.toNat ≤ h 322 x2.toNat) → ft_V k_Mo_coldest 9 [some (.inr (.inr 309)), some (.inl x2), some (.inl (ft_add x2 1))] [] h R)))))))))))) : ft_V k_Mo_coldest 9 [some (.inr (.inr 309)), some (.inl x1), some (.inl x2)] [] h R := by
  refine fv_iload_n (ft_d o_Mo_coldest 6 rfl) rfl rfl ?_
  refine fv_aload_n (ft_d o_Mo_coldest 7 rfl) rfl rfl ?_
  refine fv_getI (ft_d o_Mo_coldest 8 rfl) rfl fl_Mo_236 sh_309 rfl ?_
  refine fv_icmp_ge (tgt := 54) (ft_d o_Mo_coldest 9 rfl) rfl rfl (fun c => ?_) (fun c => ?_)
  · have w := w.1 c
    refine fv_iload_n (ft_d o_Mo_coldest 31 rfl) rfl rfl ?_
    exact fv_ireturn (ft_d o_Mo_coldest 32 rfl) rfl w
  · have w := w.2 c
    refine fv_aload_n (ft_d o_Mo_coldest 10 rfl) rfl rfl ?_
    refine fv_getR (b := 325) (ft_d o_Mo_coldest 11 rfl) rfl fl_Mo_59 sh_309 rfl ly_309_19 ?_
    refine fv_iload_n (ft_d o_Mo_coldest 12 rfl) rfl rfl ?_
    refine fv_iald (ft_d o_Mo_coldest 13 rfl) rfl sh_325 w.1 ?_
    have w := w.2
    refine fv_iconst (ft_d o_Mo_coldest 14 rfl) rfl rfl ?_
    refine fv_icmp_ne (tgt := 48) (ft_d o_Mo_coldest 15 rfl) rfl rfl (fun c => ?_) (fun c => ?_)
    · have w := w.1 c
      refine fv_iinc (L' := [some (.inr (.inr 309)), some (.inl x1), some (.inl (ft_add x2 1))]) (ft_d o_Mo_coldest 29 rfl) rfl rfl (Nat.le_of_ble_eq_true rfl) rfl ?_
      refine fv_goto (pc' := 9) (ft_d o_Mo_coldest 30 rfl) rfl ?_
      exact w
    · have w := w.2 c
      refine fv_iload_n (ft_d o_Mo_coldest 16 rfl) rfl rfl ?_
      refine fv_if_lt (tgt := 46) (ft_d o_Mo_coldest 17 rfl) rfl rfl (fun c => ?_) (fun c => ?_)
      · have w := w.1 c
        refine fv_iload_n (ft_d o_Mo_coldest 27 rfl) rfl rfl ?_
        refine fv_istore_n (L' := [some (.inr (.inr 309)), some (.inl x2), some (.inl x2)]) (ft_d o_Mo_coldest 28 rfl) rfl (Nat.le_of_ble_eq_true rfl) rfl ?_
        refine fv_iinc (L' := [some (.inr (.inr 309)), some (.inl x2), some (.inl (ft_add x2 1))]) (ft_d o_Mo_coldest 29 rfl) rfl rfl (Nat.le_of_ble_eq_true rfl) rfl ?_
        refine fv_goto (pc' := 9) (ft_d o_Mo_coldest 30 rfl) rfl ?_
        exact w
      · have w := w.2 c
        refine fv_aload_n (ft_d o_Mo_coldest 18 rfl) rfl rfl ?_
        refine fv_getR (b := 322) (ft_d o_Mo_coldest 19 rfl) rfl fl_Mo_50 sh_309 rfl ly_309_16 ?_
        refine fv_iload_n (ft_d o_Mo_coldest 20 rfl) rfl rfl ?_
        refine fv_iald (ft_d o_Mo_coldest 21 rfl) rfl sh_322 w.1 ?_
        have w := w.2
        refine fv_aload_n (ft_d o_Mo_coldest 22 rfl) rfl rfl ?_
        refine fv_getR (b := 322) (ft_d o_Mo_coldest 23 rfl) rfl fl_Mo_50 sh_309 rfl ly_309_16 ?_
        refine fv_iload_n (ft_d o_Mo_coldest 24 rfl) rfl rfl ?_
        refine fv_iald (ft_d o_Mo_coldest 25 rfl) rfl sh_322 w.1 ?_
        have w := w.2
        refine fv_icmp_ge (tgt := 48) (ft_d o_Mo_coldest 26 rfl) rfl rfl (fun c => ?_) (fun c => ?_)
        · have w := w.1 c
          refine fv_iinc (L' := [some (.inr (.inr 309)), some (.inl x1), some (.inl (ft_add x2 1))]) (ft_d o_Mo_coldest 29 rfl) rfl rfl (Nat.le_of_ble_eq_true rfl) rfl ?_
          refine fv_goto (pc' := 9) (ft_d o_Mo_coldest 30 rfl) rfl ?_
          exact w
        · have w := w.2 c
          refine fv_iload_n (ft_d o_Mo_coldest 27 rfl) rfl rfl ?_
          refine fv_istore_n (L' := [some (.inr (.inr 309)), some (.inl x2), some (.inl x2)]) (ft_d o_Mo_coldest 28 rfl) rfl (Nat.le_of_ble_eq_true rfl) rfl ?_
          refine fv_iinc (L' := [some (.inr (.inr 309)), some (.inl x2), some (.inl (ft_add x2 1))]) (ft_d o_Mo_coldest 29 rfl) rfl rfl (Nat.le_of_ble_eq_true rfl) rfl ?_
          refine fv_goto (pc' := 9) (ft_d o_Mo_coldest 30 rfl) rfl ?_
          exact w
set_option maxRecDepth 20000 in
theorem b_Mo_laysTarget_0  {h : ftH} {R : Option ftV → ftH → Prop} 
    (w : (∃ R1 : Option ftV → ftH → Prop, ft_C k_Mo_laysAll [.inr (.inr 309)] h R1 ∧ ∀ h1 : ftH, R1 none h1 → (∀ h2 : ftH, h2 = ft_hs h1 309 26 0 → ft_V k_Mo_laysTarget 11 [some (.inr (.inr 309)), some (.inl 0)] [] h2 R))) : ft_V k_Mo_laysTarget 0 [some (.inr (.inr 309)), none] [] h R := by
  refine fv_aload_n (ft_d o_Mo_laysTarget 0 rfl) rfl rfl ?_
  obtain ⟨R1, c2, w⟩ := w
  refine fv_callv (st := []) rfl rfl (ft_mm (pre := [.inr (.inr 309)]) rfl) (ft_rnV (K' := k_Mo_laysAll) (As := []) (ft_d o_Mo_laysTarget 1 rfl) ml_Mo_287 li_Mo_laysAll.1 li_Mo_laysAll.2 lw_Mo_laysAll ⟨rfl, rfl, Nat.le_of_ble_eq_true rfl, Nat.le_of_ble_eq_true rfl⟩ sh_309 rfl rfl rfl rfl (Nat.le_of_ble_eq_true rfl) c2) (fun h1 hw => ?_)
  have w := w h1 hw
  refine fv_aload_n (ft_d o_Mo_laysTarget 2 rfl) rfl rfl ?_
  refine fv_iconst (ft_d o_Mo_laysTarget 3 rfl) rfl rfl ?_
  refine fv_putI (ft_d o_Mo_laysTarget 4 rfl) rfl fl_Mo_292 rfl rfl sh_309 rfl ?_
  generalize eh2 : ft_hs h1 309 26 0 = h2
  have w := w h2 eh2.symm
  refine fv_iconst (ft_d o_Mo_laysTarget 5 rfl) rfl rfl ?_
  refine fv_istore_n (L' := [some (.inr (.inr 309)), some (.inl 0)]) (ft_d o_Mo_laysTarget 6 rfl) rfl (Nat.le_of_ble_eq_true rfl) rfl ?_
  exact w
set_option maxRecDepth 20000 in
theorem b_Mo_laysTarget_11 {x1 : Int} {h : ftH} {R : Option ftV → ftH → Prop} 
    (w : ((h 309 14 ≤ x1 → R none h) ∧ (¬ (h 309 14 ≤ x1) → ((0 ≤ x1 ∧ x1 < 64) ∧ ((¬ (h 325 x1.toNat = 0) → ((0 ≤ x1 ∧ x1 < 64) ∧ ((0 ≤ h 309 26 ∧ h 309 26 < 64) ∧ (∀ h1 : ftH, h1 = ft_hs h 326 (h 309 26).toNat (h 318 x1.toNat) → ((0 ≤ x1 ∧ x1 < 64) ∧ ((0 ≤ h1 309 26 ∧ h1 309 26 < 64) ∧ (∀ h2 : ftH, h2 = ft_hs h1 327 (h1 309 26).toNat (h1 319 x1.toNat) → ((0 ≤ x1 ∧ x1 < 64) ∧ ((¬ (h2 325 x1.toNat = 1) → ((0 ≤ h2 309 26 ∧ h2 309 26 < 64) ∧ (∀ h3 : ftH, h3 = ft_hs h2 328 (h2 309 26).toNat 16 → (∀ h4 : ftH, h4 = ft_hs h3 309 26 (ft_add (h3 309 26) 1) → ft_V k_Mo_laysTarget 11 [some (.inr (.inr 309)), some (.inl (ft_add x1 1))] [] h4 R)))) ∧ (h2 325 x1.toNat = 1 → ((0 ≤ x1 ∧ x1 < 64) ∧ ((0 ≤ h2 309 26 ∧ h2 309 26 < 64) ∧ (∀ h5 : ftH, h5 = ft_hs h2 328 (h2 309 26).toNat (h2 320 x1.toNat) → (∀ h6 : ftH, h6 = ft_hs h5 309 26 (ft_add (h5 309 26) 1) → ft_V k_Mo_laysTarget 11 [some (.inr (.inr 309)), some (.inl (ft_add x1 1))] [] h6 R)))))))))))))) ∧ (h 325 x1.toNat = 0 → ((0 ≤ x1 ∧ x1 < 64) ∧ ((h 321 x1.toNat = 64 → ft_V k_Mo_laysTarget 11 [some (.inr (.inr 309)), some (.inl (ft_add x1 1))] [] h R) ∧ (¬ (h 321 x1.toNat = 64) → ((0 ≤ x1 ∧ x1 < 64) ∧ ((0 ≤ h 321 x1.toNat ∧ h 321 x1.toNat < 64) ∧ ((¬ (h 325 (h 321 x1.toNat).toNat = 0) → ((0 ≤ x1 ∧ x1 < 64) ∧ ((0 ≤ h 309 26 ∧ h 309 26 < 64) ∧ (∀ h7 : ftH, h7 = ft_hs h 326 (h 309 26).toNat (h 318 x1.toNat) → ((0 ≤ x1 ∧ x1 < 64) ∧ ((0 ≤ h7 309 26 ∧ h7 309 26 < 64) ∧ (∀ h8 : ftH, h8 = ft_hs h7 327 (h7 309 26).toNat (h7 319 x1.toNat) → ((0 ≤ x1 ∧ x1 < 64) ∧ ((¬ (h8 325 x1.toNat = 1) → ((0 ≤ h8 309 26 ∧ h8 309 26 < 64) ∧ (∀ h9 : ftH, h9 = ft_hs h8 328 (h8 309 26).toNat 16 → (∀ h10 : ftH, h10 = ft_hs h9 309 26 (ft_add (h9 309 26) 1) → ft_V k_Mo_laysTarget 11 [some (.inr (.inr 309)), some (.inl (ft_add x1 1))] [] h10 R)))) ∧ (h8 325 x1.toNat = 1 → ((0 ≤ x1 ∧ x1 < 64) ∧ ((0 ≤ h8 309 26 ∧ h8 309 26 < 64) ∧ (∀ h11 : ftH, h11 = ft_hs h8 328 (h8 309 26).toNat (h8 320 x1.toNat) → (∀ h12 : ftH, h12 = ft_hs h11 309 26 (ft_add (h11 309 26) 1) → ft_V k_Mo_laysTarget 11 [some (.inr (.inr 309)), some (.inl (ft_add x1 1))] [] h12 R)))))))))))))) ∧ (h 325 (h 321 x1.toNat).toNat = 0 → ft_V k_Mo_laysTarget 11 [some (.inr (.inr 309)), some (.inl (ft_add x1 1))] [] h R))))))))))))) : ft_V k_Mo_laysTarget 11 [some (.inr (.inr 309)), some (.inl x1)] [] h R := by
  refine fv_iload_n (ft_d o_Mo_laysTarget 7 rfl) rfl rfl ?_
  refine fv_aload_n (ft_d o_Mo_laysTarget 8 rfl) rfl rfl ?_
  refine fv_getI (ft_d o_Mo_laysTarget 9 rfl) rfl fl_Mo_236 sh_309 rfl ?_
  refine fv_icmp_ge (tgt := 132) (ft_d o_Mo_laysTarget 10 rfl) rfl rfl (fun c => ?_) (fun c => ?_)
  · have w := w.1 c
    exact fv_return (ft_d o_Mo_laysTarget 74 rfl) rfl w
  · have w := w.2 c
    refine fv_aload_n (ft_d o_Mo_laysTarget 11 rfl) rfl rfl ?_
    refine fv_getR (b := 325) (ft_d o_Mo_laysTarget 12 rfl) rfl fl_Mo_59 sh_309 rfl ly_309_19 ?_
    refine fv_iload_n (ft_d o_Mo_laysTarget 13 rfl) rfl rfl ?_
    refine fv_iald (ft_d o_Mo_laysTarget 14 rfl) rfl sh_325 w.1 ?_
    have w := w.2
    refine fv_if_ne (tgt := 56) (ft_d o_Mo_laysTarget 15 rfl) rfl rfl (fun c => ?_) (fun c => ?_)
    · have w := w.1 c
      refine fv_aload_n (ft_d o_Mo_laysTarget 31 rfl) rfl rfl ?_
      refine fv_getR (b := 326) (ft_d o_Mo_laysTarget 32 rfl) rfl fl_Mo_62 sh_309 rfl ly_309_23 ?_
      refine fv_aload_n (ft_d o_Mo_laysTarget 33 rfl) rfl rfl ?_
      refine fv_getI (ft_d o_Mo_laysTarget 34 rfl) rfl fl_Mo_292 sh_309 rfl ?_
      refine fv_aload_n (ft_d o_Mo_laysTarget 35 rfl) rfl rfl ?_
      refine fv_getR (b := 318) (ft_d o_Mo_laysTarget 36 rfl) rfl fl_Mo_38 sh_309 rfl ly_309_11 ?_
      refine fv_iload_n (ft_d o_Mo_laysTarget 37 rfl) rfl rfl ?_
      refine fv_iald (ft_d o_Mo_laysTarget 38 rfl) rfl sh_318 w.1 ?_
      have w := w.2
      refine fv_iast (ft_d o_Mo_laysTarget 39 rfl) rfl sh_326 w.1 ?_
      have w := w.2
      generalize eh1 : ft_hs h 326 (h 309 26).toNat (h 318 x1.toNat) = h1
      have w := w h1 eh1.symm
      refine fv_aload_n (ft_d o_Mo_laysTarget 40 rfl) rfl rfl ?_
      refine fv_getR (b := 327) (ft_d o_Mo_laysTarget 41 rfl) rfl fl_Mo_65 sh_309 rfl ly_309_24 ?_
      refine fv_aload_n (ft_d o_Mo_laysTarget 42 rfl) rfl rfl ?_
      refine fv_getI (ft_d o_Mo_laysTarget 43 rfl) rfl fl_Mo_292 sh_309 rfl ?_
      refine fv_aload_n (ft_d o_Mo_laysTarget 44 rfl) rfl rfl ?_
      refine fv_getR (b := 319) (ft_d o_Mo_laysTarget 45 rfl) rfl fl_Mo_41 sh_309 rfl ly_309_12 ?_
      refine fv_iload_n (ft_d o_Mo_laysTarget 46 rfl) rfl rfl ?_
      refine fv_iald (ft_d o_Mo_laysTarget 47 rfl) rfl sh_319 w.1 ?_
      have w := w.2
      refine fv_iast (ft_d o_Mo_laysTarget 48 rfl) rfl sh_327 w.1 ?_
      have w := w.2
      generalize eh2 : ft_hs h1 327 (h1 309 26).toNat (h1 319 x1.toNat) = h2
      have w := w h2 eh2.symm
      refine fv_aload_n (ft_d o_Mo_laysTarget 49 rfl) rfl rfl ?_
      refine fv_getR (b := 328) (ft_d o_Mo_laysTarget 50 rfl) rfl fl_Mo_68 sh_309 rfl ly_309_25 ?_
      refine fv_aload_n (ft_d o_Mo_laysTarget 51 rfl) rfl rfl ?_
      refine fv_getI (ft_d o_Mo_laysTarget 52 rfl) rfl fl_Mo_292 sh_309 rfl ?_
      refine fv_aload_n (ft_d o_Mo_laysTarget 53 rfl) rfl rfl ?_
      refine fv_getR (b := 325) (ft_d o_Mo_laysTarget 54 rfl) rfl fl_Mo_59 sh_309 rfl ly_309_19 ?_
      refine fv_iload_n (ft_d o_Mo_laysTarget 55 rfl) rfl rfl ?_
      refine fv_iald (ft_d o_Mo_laysTarget 56 rfl) rfl sh_325 w.1 ?_
      have w := w.2
      refine fv_iconst (ft_d o_Mo_laysTarget 57 rfl) rfl rfl ?_
      refine fv_icmp_ne (tgt := 113) (ft_d o_Mo_laysTarget 58 rfl) rfl rfl (fun c => ?_) (fun c => ?_)
      · have w := w.1 c
        refine fv_bipush (ft_d o_Mo_laysTarget 64 rfl) rfl rfl ?_
        refine fv_iast (ft_d o_Mo_laysTarget 65 rfl) rfl sh_328 w.1 ?_
        have w := w.2
        generalize eh3 : ft_hs h2 328 (h2 309 26).toNat 16 = h3
        have w := w h3 eh3.symm
        refine fv_aload_n (ft_d o_Mo_laysTarget 66 rfl) rfl rfl ?_
        refine fv_dup (ft_d o_Mo_laysTarget 67 rfl) rfl rfl ?_
        refine fv_getI (ft_d o_Mo_laysTarget 68 rfl) rfl fl_Mo_292 sh_309 rfl ?_
        refine fv_iconst (ft_d o_Mo_laysTarget 69 rfl) rfl rfl ?_
        refine fv_iadd (ft_d o_Mo_laysTarget 70 rfl) rfl ?_
        refine fv_putI (ft_d o_Mo_laysTarget 71 rfl) rfl fl_Mo_292 rfl rfl sh_309 rfl ?_
        generalize eh4 : ft_hs h3 309 26 (ft_add (h3 309 26) 1) = h4
        have w := w h4 eh4.symm
        refine fv_iinc (L' := [some (.inr (.inr 309)), some (.inl (ft_add x1 1))]) (ft_d o_Mo_laysTarget 72 rfl) rfl rfl (Nat.le_of_ble_eq_true rfl) rfl ?_
        refine fv_goto (pc' := 11) (ft_d o_Mo_laysTarget 73 rfl) rfl ?_
        exact w
      · have w := w.2 c
        refine fv_aload_n (ft_d o_Mo_laysTarget 59 rfl) rfl rfl ?_
        refine fv_getR (b := 320) (ft_d o_Mo_laysTarget 60 rfl) rfl fl_Mo_44 sh_309 rfl ly_309_13 ?_
        refine fv_iload_n (ft_d o_Mo_laysTarget 61 rfl) rfl rfl ?_
        refine fv_iald (ft_d o_Mo_laysTarget 62 rfl) rfl sh_320 w.1 ?_
        have w := w.2
        refine fv_goto (pc' := 115) (ft_d o_Mo_laysTarget 63 rfl) rfl ?_
        refine fv_iast (ft_d o_Mo_laysTarget 65 rfl) rfl sh_328 w.1 ?_
        have w := w.2
        generalize eh5 : ft_hs h2 328 (h2 309 26).toNat (h2 320 x1.toNat) = h5
        have w := w h5 eh5.symm
        refine fv_aload_n (ft_d o_Mo_laysTarget 66 rfl) rfl rfl ?_
        refine fv_dup (ft_d o_Mo_laysTarget 67 rfl) rfl rfl ?_
        refine fv_getI (ft_d o_Mo_laysTarget 68 rfl) rfl fl_Mo_292 sh_309 rfl ?_
        refine fv_iconst (ft_d o_Mo_laysTarget 69 rfl) rfl rfl ?_
        refine fv_iadd (ft_d o_Mo_laysTarget 70 rfl) rfl ?_
        refine fv_putI (ft_d o_Mo_laysTarget 71 rfl) rfl fl_Mo_292 rfl rfl sh_309 rfl ?_
        generalize eh6 : ft_hs h5 309 26 (ft_add (h5 309 26) 1) = h6
        have w := w h6 eh6.symm
        refine fv_iinc (L' := [some (.inr (.inr 309)), some (.inl (ft_add x1 1))]) (ft_d o_Mo_laysTarget 72 rfl) rfl rfl (Nat.le_of_ble_eq_true rfl) rfl ?_
        refine fv_goto (pc' := 11) (ft_d o_Mo_laysTarget 73 rfl) rfl ?_
        exact w
    · have w := w.2 c
      refine fv_aload_n (ft_d o_Mo_laysTarget 16 rfl) rfl rfl ?_
      refine fv_getR (b := 321) (ft_d o_Mo_laysTarget 17 rfl) rfl fl_Mo_47 sh_309 rfl ly_309_15 ?_
      refine fv_iload_n (ft_d o_Mo_laysTarget 18 rfl) rfl rfl ?_
      refine fv_iald (ft_d o_Mo_laysTarget 19 rfl) rfl sh_321 w.1 ?_
      have w := w.2
      refine fv_bipush (ft_d o_Mo_laysTarget 20 rfl) rfl rfl ?_
      refine fv_icmp_eq (tgt := 126) (ft_d o_Mo_laysTarget 21 rfl) rfl rfl (fun c => ?_) (fun c => ?_)
      · have w := w.1 c
        refine fv_iinc (L' := [some (.inr (.inr 309)), some (.inl (ft_add x1 1))]) (ft_d o_Mo_laysTarget 72 rfl) rfl rfl (Nat.le_of_ble_eq_true rfl) rfl ?_
        refine fv_goto (pc' := 11) (ft_d o_Mo_laysTarget 73 rfl) rfl ?_
        exact w
      · have w := w.2 c
        refine fv_aload_n (ft_d o_Mo_laysTarget 22 rfl) rfl rfl ?_
        refine fv_getR (b := 325) (ft_d o_Mo_laysTarget 23 rfl) rfl fl_Mo_59 sh_309 rfl ly_309_19 ?_
        refine fv_aload_n (ft_d o_Mo_laysTarget 24 rfl) rfl rfl ?_
        refine fv_getR (b := 321) (ft_d o_Mo_laysTarget 25 rfl) rfl fl_Mo_47 sh_309 rfl ly_309_15 ?_
        refine fv_iload_n (ft_d o_Mo_laysTarget 26 rfl) rfl rfl ?_
        refine fv_iald (ft_d o_Mo_laysTarget 27 rfl) rfl sh_321 w.1 ?_
        have w := w.2
        refine fv_iald (ft_d o_Mo_laysTarget 28 rfl) rfl sh_325 w.1 ?_
        have w := w.2
        refine fv_if_ne (tgt := 56) (ft_d o_Mo_laysTarget 29 rfl) rfl rfl (fun c => ?_) (fun c => ?_)
        · have w := w.1 c
          refine fv_aload_n (ft_d o_Mo_laysTarget 31 rfl) rfl rfl ?_
          refine fv_getR (b := 326) (ft_d o_Mo_laysTarget 32 rfl) rfl fl_Mo_62 sh_309 rfl ly_309_23 ?_
          refine fv_aload_n (ft_d o_Mo_laysTarget 33 rfl) rfl rfl ?_
          refine fv_getI (ft_d o_Mo_laysTarget 34 rfl) rfl fl_Mo_292 sh_309 rfl ?_
          refine fv_aload_n (ft_d o_Mo_laysTarget 35 rfl) rfl rfl ?_
          refine fv_getR (b := 318) (ft_d o_Mo_laysTarget 36 rfl) rfl fl_Mo_38 sh_309 rfl ly_309_11 ?_
          refine fv_iload_n (ft_d o_Mo_laysTarget 37 rfl) rfl rfl ?_
          refine fv_iald (ft_d o_Mo_laysTarget 38 rfl) rfl sh_318 w.1 ?_
          have w := w.2
          refine fv_iast (ft_d o_Mo_laysTarget 39 rfl) rfl sh_326 w.1 ?_
          have w := w.2
          generalize eh7 : ft_hs h 326 (h 309 26).toNat (h 318 x1.toNat) = h7
          have w := w h7 eh7.symm
          refine fv_aload_n (ft_d o_Mo_laysTarget 40 rfl) rfl rfl ?_
          refine fv_getR (b := 327) (ft_d o_Mo_laysTarget 41 rfl) rfl fl_Mo_65 sh_309 rfl ly_309_24 ?_
          refine fv_aload_n (ft_d o_Mo_laysTarget 42 rfl) rfl rfl ?_
          refine fv_getI (ft_d o_Mo_laysTarget 43 rfl) rfl fl_Mo_292 sh_309 rfl ?_
          refine fv_aload_n (ft_d o_Mo_laysTarget 44 rfl) rfl rfl ?_
          refine fv_getR (b := 319) (ft_d o_Mo_laysTarget 45 rfl) rfl fl_Mo_41 sh_309 rfl ly_309_12 ?_
          refine fv_iload_n (ft_d o_Mo_laysTarget 46 rfl) rfl rfl ?_
          refine fv_iald (ft_d o_Mo_laysTarget 47 rfl) rfl sh_319 w.1 ?_
          have w := w.2
          refine fv_iast (ft_d o_Mo_laysTarget 48 rfl) rfl sh_327 w.1 ?_
          have w := w.2
          generalize eh8 : ft_hs h7 327 (h7 309 26).toNat (h7 319 x1.toNat) = h8
          have w := w h8 eh8.symm
          refine fv_aload_n (ft_d o_Mo_laysTarget 49 rfl) rfl rfl ?_
          refine fv_getR (b := 328) (ft_d o_Mo_laysTarget 50 rfl) rfl fl_Mo_68 sh_309 rfl ly_309_25 ?_
          refine fv_aload_n (ft_d o_Mo_laysTarget 51 rfl) rfl rfl ?_
          refine fv_getI (ft_d o_Mo_laysTarget 52 rfl) rfl fl_Mo_292 sh_309 rfl ?_
          refine fv_aload_n (ft_d o_Mo_laysTarget 53 rfl) rfl rfl ?_
          refine fv_getR (b := 325) (ft_d o_Mo_laysTarget 54 rfl) rfl fl_Mo_59 sh_309 rfl ly_309_19 ?_
          refine fv_iload_n (ft_d o_Mo_laysTarget 55 rfl) rfl rfl ?_
          refine fv_iald (ft_d o_Mo_laysTarget 56 rfl) rfl sh_325 w.1 ?_
          have w := w.2
          refine fv_iconst (ft_d o_Mo_laysTarget 57 rfl) rfl rfl ?_
          refine fv_icmp_ne (tgt := 113) (ft_d o_Mo_laysTarget 58 rfl) rfl rfl (fun c => ?_) (fun c => ?_)
          · have w := w.1 c
            refine fv_bipush (ft_d o_Mo_laysTarget 64 rfl) rfl rfl ?_
            refine fv_iast (ft_d o_Mo_laysTarget 65 rfl) rfl sh_328 w.1 ?_
            have w := w.2
            generalize eh9 : ft_hs h8 328 (h8 309 26).toNat 16 = h9
            have w := w h9 eh9.symm
            refine fv_aload_n (ft_d o_Mo_laysTarget 66 rfl) rfl rfl ?_
            refine fv_dup (ft_d o_Mo_laysTarget 67 rfl) rfl rfl ?_
            refine fv_getI (ft_d o_Mo_laysTarget 68 rfl) rfl fl_Mo_292 sh_309 rfl ?_
            refine fv_iconst (ft_d o_Mo_laysTarget 69 rfl) rfl rfl ?_
            refine fv_iadd (ft_d o_Mo_laysTarget 70 rfl) rfl ?_
            refine fv_putI (ft_d o_Mo_laysTarget 71 rfl) rfl fl_Mo_292 rfl rfl sh_309 rfl ?_
            generalize eh10 : ft_hs h9 309 26 (ft_add (h9 309 26) 1) = h10
            have w := w h10 eh10.symm
            refine fv_iinc (L' := [some (.inr (.inr 309)), some (.inl (ft_add x1 1))]) (ft_d o_Mo_laysTarget 72 rfl) rfl rfl (Nat.le_of_ble_eq_true rfl) rfl ?_
            refine fv_goto (pc' := 11) (ft_d o_Mo_laysTarget 73 rfl) rfl ?_
            exact w
          · have w := w.2 c
            refine fv_aload_n (ft_d o_Mo_laysTarget 59 rfl) rfl rfl ?_
            refine fv_getR (b := 320) (ft_d o_Mo_laysTarget 60 rfl) rfl fl_Mo_44 sh_309 rfl ly_309_13 ?_
            refine fv_iload_n (ft_d o_Mo_laysTarget 61 rfl) rfl rfl ?_
            refine fv_iald (ft_d o_Mo_laysTarget 62 rfl) rfl sh_320 w.1 ?_
            have w := w.2
            refine fv_goto (pc' := 115) (ft_d o_Mo_laysTarget 63 rfl) rfl ?_
            refine fv_iast (ft_d o_Mo_laysTarget 65 rfl) rfl sh_328 w.1 ?_
            have w := w.2
            generalize eh11 : ft_hs h8 328 (h8 309 26).toNat (h8 320 x1.toNat) = h11
            have w := w h11 eh11.symm
            refine fv_aload_n (ft_d o_Mo_laysTarget 66 rfl) rfl rfl ?_
            refine fv_dup (ft_d o_Mo_laysTarget 67 rfl) rfl rfl ?_
            refine fv_getI (ft_d o_Mo_laysTarget 68 rfl) rfl fl_Mo_292 sh_309 rfl ?_
            refine fv_iconst (ft_d o_Mo_laysTarget 69 rfl) rfl rfl ?_
            refine fv_iadd (ft_d o_Mo_laysTarget 70 rfl) rfl ?_
            refine fv_putI (ft_d o_Mo_laysTarget 71 rfl) rfl fl_Mo_292 rfl rfl sh_309 rfl ?_
            generalize eh12 : ft_hs h11 309 26 (ft_add (h11 309 26) 1) = h12
            have w := w h12 eh12.symm
            refine fv_iinc (L' := [some (.inr (.inr 309)), some (.inl (ft_add x1 1))]) (ft_d o_Mo_laysTarget 72 rfl) rfl rfl (Nat.le_of_ble_eq_true rfl) rfl ?_
            refine fv_goto (pc' := 11) (ft_d o_Mo_laysTarget 73 rfl) rfl ?_
            exact w
        · have w := w.2 c
          refine fv_goto (pc' := 126) (ft_d o_Mo_laysTarget 30 rfl) rfl ?_
          refine fv_iinc (L' := [some (.inr (.inr 309)), some (.inl (ft_add x1 1))]) (ft_d o_Mo_laysTarget 72 rfl) rfl rfl (Nat.le_of_ble_eq_true rfl) rfl ?_
          refine fv_goto (pc' := 11) (ft_d o_Mo_laysTarget 73 rfl) rfl ?_
          exact w
set_option maxRecDepth 20000 in
theorem b_Mo_exceptions_0  {h : ftH} {R : Option ftV → ftH → Prop} 
    (w : (∃ R1 : Option ftV → ftH → Prop, ft_C k_Mo_laysTarget [.inr (.inr 309)] h R1 ∧ ∀ h1 : ftH, R1 none h1 → ft_V k_Mo_exceptions 8 [some (.inr (.inr 309)), some (.inl 0), some (.inl 0)] [] h1 R)) : ft_V k_Mo_exceptions 0 [some (.inr (.inr 309)), none, none] [] h R := by
  refine fv_aload_n (ft_d o_Mo_exceptions 0 rfl) rfl rfl ?_
  obtain ⟨R1, c2, w⟩ := w
  refine fv_callv (st := []) rfl rfl (ft_mm (pre := [.inr (.inr 309)]) rfl) (ft_rnV (K' := k_Mo_laysTarget) (As := []) (ft_d o_Mo_exceptions 1 rfl) ml_Mo_295 li_Mo_laysTarget.1 li_Mo_laysTarget.2 lw_Mo_laysTarget ⟨rfl, rfl, Nat.le_of_ble_eq_true rfl, Nat.le_of_ble_eq_true rfl⟩ sh_309 rfl rfl rfl rfl (Nat.le_of_ble_eq_true rfl) c2) (fun h1 hw => ?_)
  have w := w h1 hw
  refine fv_iconst (ft_d o_Mo_exceptions 2 rfl) rfl rfl ?_
  refine fv_istore_n (L' := [some (.inr (.inr 309)), some (.inl 0), none]) (ft_d o_Mo_exceptions 3 rfl) rfl (Nat.le_of_ble_eq_true rfl) rfl ?_
  refine fv_iconst (ft_d o_Mo_exceptions 4 rfl) rfl rfl ?_
  refine fv_istore_n (L' := [some (.inr (.inr 309)), some (.inl 0), some (.inl 0)]) (ft_d o_Mo_exceptions 5 rfl) rfl (Nat.le_of_ble_eq_true rfl) rfl ?_
  exact w
set_option maxRecDepth 20000 in
theorem b_Mo_exceptions_8 {x1 : Int} {x2 : Int} {h : ftH} {R : Option ftV → ftH → Prop} 
    (w : ((h 309 26 ≤ x2 → R (some (.inl x1)) h) ∧ (¬ (h 309 26 ≤ x2) → ((0 ≤ x2 ∧ x2 < 64) ∧ ((¬ (h 328 x2.toNat = 16) → ft_V k_Mo_exceptions 8 [some (.inr (.inr 309)), some (.inl x1), some (.inl (ft_add x2 1))] [] h R) ∧ (h 328 x2.toNat = 16 → ft_V k_Mo_exceptions 8 [some (.inr (.inr 309)), some (.inl (ft_add x1 1)), some (.inl (ft_add x2 1))] [] h R)))))) : ft_V k_Mo_exceptions 8 [some (.inr (.inr 309)), some (.inl x1), some (.inl x2)] [] h R := by
  refine fv_iload_n (ft_d o_Mo_exceptions 6 rfl) rfl rfl ?_
  refine fv_aload_n (ft_d o_Mo_exceptions 7 rfl) rfl rfl ?_
  refine fv_getI (ft_d o_Mo_exceptions 8 rfl) rfl fl_Mo_292 sh_309 rfl ?_
  refine fv_icmp_ge (tgt := 36) (ft_d o_Mo_exceptions 9 rfl) rfl rfl (fun c => ?_) (fun c => ?_)
  · have w := w.1 c
    refine fv_iload_n (ft_d o_Mo_exceptions 19 rfl) rfl rfl ?_
    exact fv_ireturn (ft_d o_Mo_exceptions 20 rfl) rfl w
  · have w := w.2 c
    refine fv_aload_n (ft_d o_Mo_exceptions 10 rfl) rfl rfl ?_
    refine fv_getR (b := 328) (ft_d o_Mo_exceptions 11 rfl) rfl fl_Mo_68 sh_309 rfl ly_309_25 ?_
    refine fv_iload_n (ft_d o_Mo_exceptions 12 rfl) rfl rfl ?_
    refine fv_iald (ft_d o_Mo_exceptions 13 rfl) rfl sh_328 w.1 ?_
    have w := w.2
    refine fv_bipush (ft_d o_Mo_exceptions 14 rfl) rfl rfl ?_
    refine fv_icmp_ne (tgt := 30) (ft_d o_Mo_exceptions 15 rfl) rfl rfl (fun c => ?_) (fun c => ?_)
    · have w := w.1 c
      refine fv_iinc (L' := [some (.inr (.inr 309)), some (.inl x1), some (.inl (ft_add x2 1))]) (ft_d o_Mo_exceptions 17 rfl) rfl rfl (Nat.le_of_ble_eq_true rfl) rfl ?_
      refine fv_goto (pc' := 8) (ft_d o_Mo_exceptions 18 rfl) rfl ?_
      exact w
    · have w := w.2 c
      refine fv_iinc (L' := [some (.inr (.inr 309)), some (.inl (ft_add x1 1)), some (.inl x2)]) (ft_d o_Mo_exceptions 16 rfl) rfl rfl (Nat.le_of_ble_eq_true rfl) rfl ?_
      refine fv_iinc (L' := [some (.inr (.inr 309)), some (.inl (ft_add x1 1)), some (.inl (ft_add x2 1))]) (ft_d o_Mo_exceptions 17 rfl) rfl rfl (Nat.le_of_ble_eq_true rfl) rfl ?_
      refine fv_goto (pc' := 8) (ft_d o_Mo_exceptions 18 rfl) rfl ?_
      exact w
set_option maxRecDepth 20000 in
theorem b_Mo_targetSize_0  {h : ftH} {R : Option ftV → ftH → Prop} 
    (w : (∃ R1 : Option ftV → ftH → Prop, ft_C k_Mo_laysTarget [.inr (.inr 309)] h R1 ∧ ∀ h1 : ftH, R1 none h1 → R (some (.inl (h1 309 26))) h1)) : ft_V k_Mo_targetSize 0 [some (.inr (.inr 309))] [] h R := by
  refine fv_aload_n (ft_d o_Mo_targetSize 0 rfl) rfl rfl ?_
  obtain ⟨R1, c2, w⟩ := w
  refine fv_callv (st := []) rfl rfl (ft_mm (pre := [.inr (.inr 309)]) rfl) (ft_rnV (K' := k_Mo_laysTarget) (As := []) (ft_d o_Mo_targetSize 1 rfl) ml_Mo_295 li_Mo_laysTarget.1 li_Mo_laysTarget.2 lw_Mo_laysTarget ⟨rfl, rfl, Nat.le_of_ble_eq_true rfl, Nat.le_of_ble_eq_true rfl⟩ sh_309 rfl rfl rfl rfl (Nat.le_of_ble_eq_true rfl) c2) (fun h1 hw => ?_)
  have w := w h1 hw
  refine fv_aload_n (ft_d o_Mo_targetSize 2 rfl) rfl rfl ?_
  refine fv_getI (ft_d o_Mo_targetSize 3 rfl) rfl fl_Mo_292 sh_309 rfl ?_
  exact fv_ireturn (ft_d o_Mo_targetSize 4 rfl) rfl w
set_option maxRecDepth 20000 in
theorem b_Mo_target_0 {x1 : Int} {x2 : Int} {h : ftH} {R : Option ftV → ftH → Prop} 
    (w : ((x1 < 0 → R (some (.inr (.inl ((-1))))) h) ∧ (¬ (x1 < 0) → (((0 : Int) ≤ x2 ∧ x2 ≤ (2 : Int) → (∃ R3 : Option ftV → ftH → Prop, ft_C k_Mo_laysTarget [.inr (.inr 309)] h R3 ∧ ∀ h1 : ftH, R3 none h1 → ((x1 < h1 309 26 → ((¬ (x2 = 0) → ((¬ (x2 = 1) → ((0 ≤ x1 ∧ x1 < 64) ∧ R (some (.inr (.inl (h1 328 x1.toNat)))) h1)) ∧ (x2 = 1 → ((0 ≤ x1 ∧ x1 < 64) ∧ R (some (.inr (.inl (h1 327 x1.toNat)))) h1)))) ∧ (x2 = 0 → ((0 ≤ x1 ∧ x1 < 64) ∧ R (some (.inr (.inl (pUn (h1 326 x1.toNat))))) h1)))) ∧ (¬ (x1 < h1 309 26) → R (some (.inr (.inl ((-2))))) h1)))) ∧ (¬ ((0 : Int) ≤ x2 ∧ x2 ≤ (2 : Int)) → R (some (.inr (.inl ((-1))))) h))))) : ft_V k_Mo_target 0 [some (.inr (.inr 309)), some (.inl x1), some (.inl x2)] [] h R := by
  refine fv_iload_n (ft_d o_Mo_target 0 rfl) rfl rfl ?_
  refine fv_if_lt (tgt := 16) (ft_d o_Mo_target 1 rfl) rfl rfl (fun c => ?_) (fun c => ?_)
  · have w := w.1 c
    refine fv_ldc2 (v := (-1)) (z := (-1)) (ft_d o_Mo_target 8 rfl) rfl (ft_gt 1202 (by decide +kernel) rfl) rfl ?_
    exact fv_lreturn (ft_d o_Mo_target 9 rfl) rfl w
  · have w := w.2 c
    refine fv_iload_n (ft_d o_Mo_target 2 rfl) rfl rfl ?_
    refine fv_i2l (ft_d o_Mo_target 3 rfl) rfl ?_
    refine fv_lconst (z := 0) (ft_d o_Mo_target 4 rfl) rfl rfl ?_
    refine fv_ldc2 (v := 2) (z := 2) (ft_d o_Mo_target 5 rfl) rfl (ft_gt 1472 (by decide +kernel) rfl) rfl ?_
    refine fv_callif (st := []) (z := (if (0 : Int) ≤ x2 ∧ x2 ≤ (2 : Int) then 1 else 0)) (Or.inr rfl) rfl (ft_mm (pre := [.inr (.inl 2), .inr (.inl 0), .inr (.inl x2)]) rfl) (ft_rnS (K' := k_Mo_in) (As := [.inr (.inl x2), .inr (.inl 0), .inr (.inl 2)]) (ft_d o_Mo_target 6 rfl) ml_Mo_106 lz_Mo_in rfl lw_Mo_in ⟨rfl, rfl, Nat.le_of_ble_eq_true rfl, Nat.le_of_ble_eq_true rfl⟩ rfl rfl (Nat.le_of_ble_eq_true rfl) (c_Mo_in)) ?_
    refine fv_if_ne (tgt := 20) (ft_d o_Mo_target 7 rfl) rfl rfl (fun c => ?_) (fun c => ?_)
    · have w := w.1 (ft_if1.mp c)
      refine fv_aload_n (ft_d o_Mo_target 10 rfl) rfl rfl ?_
      obtain ⟨R3, c4, w⟩ := w
      refine fv_callv (st := []) rfl rfl (ft_mm (pre := [.inr (.inr 309)]) rfl) (ft_rnV (K' := k_Mo_laysTarget) (As := []) (ft_d o_Mo_target 11 rfl) ml_Mo_295 li_Mo_laysTarget.1 li_Mo_laysTarget.2 lw_Mo_laysTarget ⟨rfl, rfl, Nat.le_of_ble_eq_true rfl, Nat.le_of_ble_eq_true rfl⟩ sh_309 rfl rfl rfl rfl (Nat.le_of_ble_eq_true rfl) c4) (fun h1 hw => ?_)
      have w := w h1 hw
      refine fv_iload_n (ft_d o_Mo_target 12 rfl) rfl rfl ?_
      refine fv_aload_n (ft_d o_Mo_target 13 rfl) rfl rfl ?_
      refine fv_getI (ft_d o_Mo_target 14 rfl) rfl fl_Mo_292 sh_309 rfl ?_
      refine fv_icmp_lt (tgt := 36) (ft_d o_Mo_target 15 rfl) rfl rfl (fun c => ?_) (fun c => ?_)
      · have w := w.1 c
        refine fv_iload_n (ft_d o_Mo_target 18 rfl) rfl rfl ?_
        refine fv_if_ne (tgt := 52) (ft_d o_Mo_target 19 rfl) rfl rfl (fun c => ?_) (fun c => ?_)
        · have w := w.1 c
          refine fv_iload_n (ft_d o_Mo_target 26 rfl) rfl rfl ?_
          refine fv_iconst (ft_d o_Mo_target 27 rfl) rfl rfl ?_
          refine fv_icmp_ne (tgt := 67) (ft_d o_Mo_target 28 rfl) rfl rfl (fun c => ?_) (fun c => ?_)
          · have w := w.1 c
            refine fv_aload_n (ft_d o_Mo_target 35 rfl) rfl rfl ?_
            refine fv_getR (b := 328) (ft_d o_Mo_target 36 rfl) rfl fl_Mo_68 sh_309 rfl ly_309_25 ?_
            refine fv_iload_n (ft_d o_Mo_target 37 rfl) rfl rfl ?_
            refine fv_iald (ft_d o_Mo_target 38 rfl) rfl sh_328 w.1 ?_
            have w := w.2
            refine fv_i2l (ft_d o_Mo_target 39 rfl) rfl ?_
            exact fv_lreturn (ft_d o_Mo_target 40 rfl) rfl w
          · have w := w.2 c
            refine fv_aload_n (ft_d o_Mo_target 29 rfl) rfl rfl ?_
            refine fv_getR (b := 327) (ft_d o_Mo_target 30 rfl) rfl fl_Mo_65 sh_309 rfl ly_309_24 ?_
            refine fv_iload_n (ft_d o_Mo_target 31 rfl) rfl rfl ?_
            refine fv_iald (ft_d o_Mo_target 32 rfl) rfl sh_327 w.1 ?_
            have w := w.2
            refine fv_i2l (ft_d o_Mo_target 33 rfl) rfl ?_
            refine fv_goto (pc' := 74) (ft_d o_Mo_target 34 rfl) rfl ?_
            exact fv_lreturn (ft_d o_Mo_target 40 rfl) rfl w
        · have w := w.2 c
          refine fv_aload_n (ft_d o_Mo_target 20 rfl) rfl rfl ?_
          refine fv_getR (b := 326) (ft_d o_Mo_target 21 rfl) rfl fl_Mo_62 sh_309 rfl ly_309_23 ?_
          refine fv_iload_n (ft_d o_Mo_target 22 rfl) rfl rfl ?_
          refine fv_iald (ft_d o_Mo_target 23 rfl) rfl sh_326 w.1 ?_
          have w := w.2
          refine fv_calllf (st := []) (z := pUn (h1 326 x1.toNat)) rfl rfl (ft_mm (pre := [.inl (h1 326 x1.toNat)]) rfl) (ft_rnS (K' := k_Mo_unsigned) (As := [.inl (h1 326 x1.toNat)]) (ft_d o_Mo_target 24 rfl) ml_Mo_100 lz_Mo_unsigned rfl lw_Mo_unsigned ⟨rfl, rfl, Nat.le_of_ble_eq_true rfl, Nat.le_of_ble_eq_true rfl⟩ rfl rfl (Nat.le_of_ble_eq_true rfl) (c_Mo_unsigned)) ?_
          refine fv_goto (pc' := 74) (ft_d o_Mo_target 25 rfl) rfl ?_
          exact fv_lreturn (ft_d o_Mo_target 40 rfl) rfl w
      · have w := w.2 c
        refine fv_ldc2 (v := (-2)) (z := (-2)) (ft_d o_Mo_target 16 rfl) rfl (ft_gt 1207 (by decide +kernel) rfl) rfl ?_
        exact fv_lreturn (ft_d o_Mo_target 17 rfl) rfl w
    · have w := w.2 (ft_if0.mp c)
      refine fv_ldc2 (v := (-1)) (z := (-1)) (ft_d o_Mo_target 8 rfl) rfl (ft_gt 1202 (by decide +kernel) rfl) rfl ?_
      exact fv_lreturn (ft_d o_Mo_target 9 rfl) rfl w
set_option maxRecDepth 20000 in
theorem b_Mo_lostHits_0  {h : ftH} {R : Option ftV → ftH → Prop} 
    (w : (∃ R1 : Option ftV → ftH → Prop, ft_C k_Mo_laysAll [.inr (.inr 309)] h R1 ∧ ∀ h1 : ftH, R1 none h1 → R (some (.inl (h1 309 21))) h1)) : ft_V k_Mo_lostHits 0 [some (.inr (.inr 309))] [] h R := by
  refine fv_aload_n (ft_d o_Mo_lostHits 0 rfl) rfl rfl ?_
  obtain ⟨R1, c2, w⟩ := w
  refine fv_callv (st := []) rfl rfl (ft_mm (pre := [.inr (.inr 309)]) rfl) (ft_rnV (K' := k_Mo_laysAll) (As := []) (ft_d o_Mo_lostHits 1 rfl) ml_Mo_287 li_Mo_laysAll.1 li_Mo_laysAll.2 lw_Mo_laysAll ⟨rfl, rfl, Nat.le_of_ble_eq_true rfl, Nat.le_of_ble_eq_true rfl⟩ sh_309 rfl rfl rfl rfl (Nat.le_of_ble_eq_true rfl) c2) (fun h1 hw => ?_)
  have w := w h1 hw
  refine fv_aload_n (ft_d o_Mo_lostHits 2 rfl) rfl rfl ?_
  refine fv_getI (ft_d o_Mo_lostHits 3 rfl) rfl fl_Mo_262 sh_309 rfl ?_
  exact fv_ireturn (ft_d o_Mo_lostHits 4 rfl) rfl w
set_option maxRecDepth 20000 in
theorem b_Mo_lostHitsWith_0 {x1 : Int} {h : ftH} {R : Option ftV → ftH → Prop} 
    (w : (((0 : Int) ≤ x1 ∧ x1 ≤ (60 : Int) → (∃ R3 : Option ftV → ftH → Prop, ft_C k_Mo_laysOpen [.inr (.inr 309)] h R3 ∧ ∀ h1 : ftH, R3 none h1 → (∃ R5 : Option ftV → ftH → Prop, ft_C k_Mo_lostBy [.inr (.inr 309), .inl x1] h1 R5 ∧ ∀ (z7 : Int) (h2 : ftH), ft_in z7 → R5 (some (.inl z7)) h2 → R (some (.inl z7)) h2))) ∧ (¬ ((0 : Int) ≤ x1 ∧ x1 ≤ (60 : Int)) → R (some (.inl ((-1)))) h))) : ft_V k_Mo_lostHitsWith 0 [some (.inr (.inr 309)), some (.inl x1)] [] h R := by
  refine fv_iload_n (ft_d o_Mo_lostHitsWith 0 rfl) rfl rfl ?_
  refine fv_i2l (ft_d o_Mo_lostHitsWith 1 rfl) rfl ?_
  refine fv_lconst (z := 0) (ft_d o_Mo_lostHitsWith 2 rfl) rfl rfl ?_
  refine fv_ldc2 (v := 60) (z := 60) (ft_d o_Mo_lostHitsWith 3 rfl) rfl (ft_gt 1481 (by decide +kernel) rfl) rfl ?_
  refine fv_callif (st := []) (z := (if (0 : Int) ≤ x1 ∧ x1 ≤ (60 : Int) then 1 else 0)) (Or.inr rfl) rfl (ft_mm (pre := [.inr (.inl 60), .inr (.inl 0), .inr (.inl x1)]) rfl) (ft_rnS (K' := k_Mo_in) (As := [.inr (.inl x1), .inr (.inl 0), .inr (.inl 60)]) (ft_d o_Mo_lostHitsWith 4 rfl) ml_Mo_106 lz_Mo_in rfl lw_Mo_in ⟨rfl, rfl, Nat.le_of_ble_eq_true rfl, Nat.le_of_ble_eq_true rfl⟩ rfl rfl (Nat.le_of_ble_eq_true rfl) (c_Mo_in)) ?_
  refine fv_if_ne (tgt := 14) (ft_d o_Mo_lostHitsWith 5 rfl) rfl rfl (fun c => ?_) (fun c => ?_)
  · have w := w.1 (ft_if1.mp c)
    refine fv_aload_n (ft_d o_Mo_lostHitsWith 8 rfl) rfl rfl ?_
    obtain ⟨R3, c4, w⟩ := w
    refine fv_callv (st := []) rfl rfl (ft_mm (pre := [.inr (.inr 309)]) rfl) (ft_rnV (K' := k_Mo_laysOpen) (As := []) (ft_d o_Mo_lostHitsWith 9 rfl) ml_Mo_302 li_Mo_laysOpen.1 li_Mo_laysOpen.2 lw_Mo_laysOpen ⟨rfl, rfl, Nat.le_of_ble_eq_true rfl, Nat.le_of_ble_eq_true rfl⟩ sh_309 rfl rfl rfl rfl (Nat.le_of_ble_eq_true rfl) c4) (fun h1 hw => ?_)
    have w := w h1 hw
    refine fv_aload_n (ft_d o_Mo_lostHitsWith 10 rfl) rfl rfl ?_
    refine fv_iload_n (ft_d o_Mo_lostHitsWith 11 rfl) rfl rfl ?_
    obtain ⟨R5, c6, w⟩ := w
    refine fv_calli (st := []) (Or.inl rfl) rfl (ft_mm (pre := [.inl x1, .inr (.inr 309)]) rfl) (ft_rnV (K' := k_Mo_lostBy) (As := [.inl x1]) (ft_d o_Mo_lostHitsWith 12 rfl) ml_Mo_278 li_Mo_lostBy.1 li_Mo_lostBy.2 lw_Mo_lostBy ⟨rfl, rfl, Nat.le_of_ble_eq_true rfl, Nat.le_of_ble_eq_true rfl⟩ sh_309 rfl rfl rfl rfl (Nat.le_of_ble_eq_true rfl) c6) (fun z7 h2 hz hw => ?_)
    have w := w z7 h2 hz hw
    exact fv_ireturn (ft_d o_Mo_lostHitsWith 13 rfl) rfl w
  · have w := w.2 (ft_if0.mp c)
    refine fv_iconst (ft_d o_Mo_lostHitsWith 6 rfl) rfl rfl ?_
    exact fv_ireturn (ft_d o_Mo_lostHitsWith 7 rfl) rfl w
set_option maxRecDepth 20000 in
theorem b_Mo_enough_0  {h : ftH} {R : Option ftV → ftH → Prop} 
    (w : (∃ R1 : Option ftV → ftH → Prop, ft_C k_Mo_laysOpen [.inr (.inr 309)] h R1 ∧ ∀ h1 : ftH, R1 none h1 → ft_V k_Mo_enough 6 [some (.inr (.inr 309)), some (.inl 0)] [] h1 R)) : ft_V k_Mo_enough 0 [some (.inr (.inr 309)), none] [] h R := by
  refine fv_aload_n (ft_d o_Mo_enough 0 rfl) rfl rfl ?_
  obtain ⟨R1, c2, w⟩ := w
  refine fv_callv (st := []) rfl rfl (ft_mm (pre := [.inr (.inr 309)]) rfl) (ft_rnV (K' := k_Mo_laysOpen) (As := []) (ft_d o_Mo_enough 1 rfl) ml_Mo_302 li_Mo_laysOpen.1 li_Mo_laysOpen.2 lw_Mo_laysOpen ⟨rfl, rfl, Nat.le_of_ble_eq_true rfl, Nat.le_of_ble_eq_true rfl⟩ sh_309 rfl rfl rfl rfl (Nat.le_of_ble_eq_true rfl) c2) (fun h1 hw => ?_)
  have w := w h1 hw
  refine fv_iconst (ft_d o_Mo_enough 2 rfl) rfl rfl ?_
  refine fv_istore_n (L' := [some (.inr (.inr 309)), some (.inl 0)]) (ft_d o_Mo_enough 3 rfl) rfl (Nat.le_of_ble_eq_true rfl) rfl ?_
  exact w
set_option maxRecDepth 20000 in
theorem b_Mo_enough_6 {x1 : Int} {h : ftH} {R : Option ftV → ftH → Prop} 
    (w : (((0 ≤ (64 : Int) ∧ (64 : Int) ≤ 64) ∧ (0 ≤ (0 : Int) ∧ (0 : Int) ≤ 1) ∧ (0 ≤ x1 ∧ x1 ≤ 60)) ∧ ((0 ≤ 61 * (2 * (64 : Int) + (0 : Int)) + x1 ∧ 61 * (2 * (64 : Int) + (0 : Int)) + x1 < 7930) ∧ ((h 323 (61 * (2 * (64 : Int) + (0 : Int)) + x1).toNat = 0 → R (some (.inl x1)) h) ∧ (¬ (h 323 (61 * (2 * (64 : Int) + (0 : Int)) + x1).toNat = 0) → ft_V k_Mo_enough 6 [some (.inr (.inr 309)), some (.inl (ft_add x1 1))] [] h R))))) : ft_V k_Mo_enough 6 [some (.inr (.inr 309)), some (.inl x1)] [] h R := by
  refine fv_aload_n (ft_d o_Mo_enough 4 rfl) rfl rfl ?_
  refine fv_getR (b := 323) (ft_d o_Mo_enough 5 rfl) rfl fl_Mo_53 sh_309 rfl ly_309_17 ?_
  refine fv_bipush (ft_d o_Mo_enough 6 rfl) rfl rfl ?_
  refine fv_iconst (ft_d o_Mo_enough 7 rfl) rfl rfl ?_
  refine fv_iload_n (ft_d o_Mo_enough 8 rfl) rfl rfl ?_
  refine fv_callif (st := [.inr (.inr 323)]) (z := 61 * (2 * (64 : Int) + (0 : Int)) + x1) (Or.inl rfl) rfl (ft_mm (pre := [.inl x1, .inl 0, .inl 64]) rfl) (ft_rnS (K' := k_Mo_at) (As := [.inl 64, .inl 0, .inl x1]) (ft_d o_Mo_enough 9 rfl) ml_Mo_248 lz_Mo_at rfl lw_Mo_at ⟨rfl, rfl, Nat.le_of_ble_eq_true rfl, Nat.le_of_ble_eq_true rfl⟩ rfl rfl (Nat.le_of_ble_eq_true rfl) (c_Mo_at w.1)) ?_
  have w := w.2
  refine fv_iald (ft_d o_Mo_enough 10 rfl) rfl sh_323 w.1 ?_
  have w := w.2
  refine fv_if_eq (tgt := 27) (ft_d o_Mo_enough 11 rfl) rfl rfl (fun c => ?_) (fun c => ?_)
  · have w := w.1 c
    refine fv_iload_n (ft_d o_Mo_enough 14 rfl) rfl rfl ?_
    exact fv_ireturn (ft_d o_Mo_enough 15 rfl) rfl w
  · have w := w.2 c
    refine fv_iinc (L' := [some (.inr (.inr 309)), some (.inl (ft_add x1 1))]) (ft_d o_Mo_enough 12 rfl) rfl rfl (Nat.le_of_ble_eq_true rfl) rfl ?_
    refine fv_goto (pc' := 6) (ft_d o_Mo_enough 13 rfl) rfl ?_
    exact w
set_option maxRecDepth 20000 in
theorem b_Mo_hardwareSize_0  {h : ftH} {R : Option ftV → ftH → Prop} 
    (w : R (some (.inl (h 310 2))) h) : ft_V k_Mo_hardwareSize 0 [some (.inr (.inr 309))] [] h R := by
  refine fv_aload_n (ft_d o_Mo_hardwareSize 0 rfl) rfl rfl ?_
  refine fv_getR (b := 310) (ft_d o_Mo_hardwareSize 1 rfl) rfl fl_Mo_13 sh_309 rfl ly_309_1 ?_
  refine fv_iconst (ft_d o_Mo_hardwareSize 2 rfl) rfl rfl ?_
  refine fv_ialdj (j := 2) (ft_d o_Mo_hardwareSize 3 rfl) rfl sh_310 ⟨by decide, by decide⟩ rfl ?_
  exact fv_ireturn (ft_d o_Mo_hardwareSize 4 rfl) rfl w
set_option maxRecDepth 20000 in
theorem b_Mo_hardware_0 {x1 : Int} {x2 : Int} {h : ftH} {R : Option ftV → ftH → Prop} 
    (w : ((x1 < 0 → R (some (.inr (.inl ((-1))))) h) ∧ (¬ (x1 < 0) → (((0 : Int) ≤ x2 ∧ x2 ≤ (2 : Int) → ((x1 < h 310 2 → ((¬ (x2 = 0) → ((¬ (x2 = 1) → ((0 ≤ x1 ∧ x1 < 80) ∧ R (some (.inr (.inl (h 310 (272 + 3 * x1.toNat))))) h)) ∧ (x2 = 1 → ((0 ≤ x1 ∧ x1 < 80) ∧ R (some (.inr (.inl (h 310 (271 + 3 * x1.toNat))))) h)))) ∧ (x2 = 0 → ((0 ≤ x1 ∧ x1 < 80) ∧ R (some (.inr (.inl (pUn (h 310 (270 + 3 * x1.toNat)))))) h)))) ∧ (¬ (x1 < h 310 2) → R (some (.inr (.inl ((-2))))) h))) ∧ (¬ ((0 : Int) ≤ x2 ∧ x2 ≤ (2 : Int)) → R (some (.inr (.inl ((-1))))) h))))) : ft_V k_Mo_hardware 0 [some (.inr (.inr 309)), some (.inl x1), some (.inl x2)] [] h R := by
  refine fv_iload_n (ft_d o_Mo_hardware 0 rfl) rfl rfl ?_
  refine fv_if_lt (tgt := 16) (ft_d o_Mo_hardware 1 rfl) rfl rfl (fun c => ?_) (fun c => ?_)
  · have w := w.1 c
    refine fv_ldc2 (v := (-1)) (z := (-1)) (ft_d o_Mo_hardware 8 rfl) rfl (ft_gt 1202 (by decide +kernel) rfl) rfl ?_
    exact fv_lreturn (ft_d o_Mo_hardware 9 rfl) rfl w
  · have w := w.2 c
    refine fv_iload_n (ft_d o_Mo_hardware 2 rfl) rfl rfl ?_
    refine fv_i2l (ft_d o_Mo_hardware 3 rfl) rfl ?_
    refine fv_lconst (z := 0) (ft_d o_Mo_hardware 4 rfl) rfl rfl ?_
    refine fv_ldc2 (v := 2) (z := 2) (ft_d o_Mo_hardware 5 rfl) rfl (ft_gt 1472 (by decide +kernel) rfl) rfl ?_
    refine fv_callif (st := []) (z := (if (0 : Int) ≤ x2 ∧ x2 ≤ (2 : Int) then 1 else 0)) (Or.inr rfl) rfl (ft_mm (pre := [.inr (.inl 2), .inr (.inl 0), .inr (.inl x2)]) rfl) (ft_rnS (K' := k_Mo_in) (As := [.inr (.inl x2), .inr (.inl 0), .inr (.inl 2)]) (ft_d o_Mo_hardware 6 rfl) ml_Mo_106 lz_Mo_in rfl lw_Mo_in ⟨rfl, rfl, Nat.le_of_ble_eq_true rfl, Nat.le_of_ble_eq_true rfl⟩ rfl rfl (Nat.le_of_ble_eq_true rfl) (c_Mo_in)) ?_
    refine fv_if_ne (tgt := 20) (ft_d o_Mo_hardware 7 rfl) rfl rfl (fun c => ?_) (fun c => ?_)
    · have w := w.1 (ft_if1.mp c)
      refine fv_iload_n (ft_d o_Mo_hardware 10 rfl) rfl rfl ?_
      refine fv_aload_n (ft_d o_Mo_hardware 11 rfl) rfl rfl ?_
      refine fv_getR (b := 310) (ft_d o_Mo_hardware 12 rfl) rfl fl_Mo_13 sh_309 rfl ly_309_1 ?_
      refine fv_iconst (ft_d o_Mo_hardware 13 rfl) rfl rfl ?_
      refine fv_ialdj (j := 2) (ft_d o_Mo_hardware 14 rfl) rfl sh_310 ⟨by decide, by decide⟩ rfl ?_
      refine fv_icmp_lt (tgt := 34) (ft_d o_Mo_hardware 15 rfl) rfl rfl (fun c => ?_) (fun c => ?_)
      · have w := w.1 c
        refine fv_iload_n (ft_d o_Mo_hardware 18 rfl) rfl rfl ?_
        refine fv_if_ne (tgt := 49) (ft_d o_Mo_hardware 19 rfl) rfl rfl (fun c => ?_) (fun c => ?_)
        · have w := w.1 c
          refine fv_iload_n (ft_d o_Mo_hardware 25 rfl) rfl rfl ?_
          refine fv_iconst (ft_d o_Mo_hardware 26 rfl) rfl rfl ?_
          refine fv_icmp_ne (tgt := 63) (ft_d o_Mo_hardware 27 rfl) rfl rfl (fun c => ?_) (fun c => ?_)
          · have w := w.1 c
            refine fv_aload_n (ft_d o_Mo_hardware 33 rfl) rfl rfl ?_
            refine fv_iload_n (ft_d o_Mo_hardware 34 rfl) rfl rfl ?_
            refine fv_callif (st := []) (z := h 310 (272 + 3 * x1.toNat)) (Or.inl rfl) rfl (ft_mm (pre := [.inl x1, .inr (.inr 309)]) rfl) (ft_rnV (K' := k_Mo_actionIn) (As := [.inl x1]) (ft_d o_Mo_hardware 35 rfl) ml_Mo_157 li_Mo_actionIn.1 li_Mo_actionIn.2 lw_Mo_actionIn ⟨rfl, rfl, Nat.le_of_ble_eq_true rfl, Nat.le_of_ble_eq_true rfl⟩ sh_309 rfl rfl rfl rfl (Nat.le_of_ble_eq_true rfl) (c_Mo_actionIn w.1)) ?_
            have w := w.2
            refine fv_i2l (ft_d o_Mo_hardware 36 rfl) rfl ?_
            exact fv_lreturn (ft_d o_Mo_hardware 37 rfl) rfl w
          · have w := w.2 c
            refine fv_aload_n (ft_d o_Mo_hardware 28 rfl) rfl rfl ?_
            refine fv_iload_n (ft_d o_Mo_hardware 29 rfl) rfl rfl ?_
            refine fv_callif (st := []) (z := h 310 (271 + 3 * x1.toNat)) (Or.inl rfl) rfl (ft_mm (pre := [.inl x1, .inr (.inr 309)]) rfl) (ft_rnV (K' := k_Mo_lengthIn) (As := [.inl x1]) (ft_d o_Mo_hardware 30 rfl) ml_Mo_173 li_Mo_lengthIn.1 li_Mo_lengthIn.2 lw_Mo_lengthIn ⟨rfl, rfl, Nat.le_of_ble_eq_true rfl, Nat.le_of_ble_eq_true rfl⟩ sh_309 rfl rfl rfl rfl (Nat.le_of_ble_eq_true rfl) (c_Mo_lengthIn w.1)) ?_
            have w := w.2
            refine fv_i2l (ft_d o_Mo_hardware 31 rfl) rfl ?_
            refine fv_goto (pc' := 69) (ft_d o_Mo_hardware 32 rfl) rfl ?_
            exact fv_lreturn (ft_d o_Mo_hardware 37 rfl) rfl w
        · have w := w.2 c
          refine fv_aload_n (ft_d o_Mo_hardware 20 rfl) rfl rfl ?_
          refine fv_iload_n (ft_d o_Mo_hardware 21 rfl) rfl rfl ?_
          refine fv_callif (st := []) (z := h 310 (270 + 3 * x1.toNat)) (Or.inl rfl) rfl (ft_mm (pre := [.inl x1, .inr (.inr 309)]) rfl) (ft_rnV (K' := k_Mo_valueIn) (As := [.inl x1]) (ft_d o_Mo_hardware 22 rfl) ml_Mo_176 li_Mo_valueIn.1 li_Mo_valueIn.2 lw_Mo_valueIn ⟨rfl, rfl, Nat.le_of_ble_eq_true rfl, Nat.le_of_ble_eq_true rfl⟩ sh_309 rfl rfl rfl rfl (Nat.le_of_ble_eq_true rfl) (c_Mo_valueIn w.1)) ?_
          have w := w.2
          refine fv_calllf (st := []) (z := pUn (h 310 (270 + 3 * x1.toNat))) rfl rfl (ft_mm (pre := [.inl (h 310 (270 + 3 * x1.toNat))]) rfl) (ft_rnS (K' := k_Mo_unsigned) (As := [.inl (h 310 (270 + 3 * x1.toNat))]) (ft_d o_Mo_hardware 23 rfl) ml_Mo_100 lz_Mo_unsigned rfl lw_Mo_unsigned ⟨rfl, rfl, Nat.le_of_ble_eq_true rfl, Nat.le_of_ble_eq_true rfl⟩ rfl rfl (Nat.le_of_ble_eq_true rfl) (c_Mo_unsigned)) ?_
          refine fv_goto (pc' := 69) (ft_d o_Mo_hardware 24 rfl) rfl ?_
          exact fv_lreturn (ft_d o_Mo_hardware 37 rfl) rfl w
      · have w := w.2 c
        refine fv_ldc2 (v := (-2)) (z := (-2)) (ft_d o_Mo_hardware 16 rfl) rfl (ft_gt 1207 (by decide +kernel) rfl) rfl ?_
        exact fv_lreturn (ft_d o_Mo_hardware 17 rfl) rfl w
    · have w := w.2 (ft_if0.mp c)
      refine fv_ldc2 (v := (-1)) (z := (-1)) (ft_d o_Mo_hardware 8 rfl) rfl (ft_gt 1202 (by decide +kernel) rfl) rfl ?_
      exact fv_lreturn (ft_d o_Mo_hardware 9 rfl) rfl w
set_option maxRecDepth 20000 in
theorem b_Mo_action_0 {x1 : Int} {h : ftH} {R : Option ftV → ftH → Prop} 
    (w : (∃ R1 : Option ftV → ftH → Prop, ft_C k_Mo_actionFor [.inr (.inr 309), .inl x1] h R1 ∧ ∀ (z3 : Int) (h1 : ftH), ft_in z3 → R1 (some (.inl z3)) h1 → R (some (.inl z3)) h1)) : ft_V k_Mo_action 0 [some (.inr (.inr 309)), some (.inl x1)] [] h R := by
  refine fv_aload_n (ft_d o_Mo_action 0 rfl) rfl rfl ?_
  refine fv_iload_n (ft_d o_Mo_action 1 rfl) rfl rfl ?_
  obtain ⟨R1, c2, w⟩ := w
  refine fv_calli (st := []) (Or.inl rfl) rfl (ft_mm (pre := [.inl x1, .inr (.inr 309)]) rfl) (ft_rnV (K' := k_Mo_actionFor) (As := [.inl x1]) (ft_d o_Mo_action 2 rfl) ml_Mo_160 li_Mo_actionFor.1 li_Mo_actionFor.2 lw_Mo_actionFor ⟨rfl, rfl, Nat.le_of_ble_eq_true rfl, Nat.le_of_ble_eq_true rfl⟩ sh_309 rfl rfl rfl rfl (Nat.le_of_ble_eq_true rfl) c2) (fun z3 h1 hz hw => ?_)
  have w := w z3 h1 hz hw
  exact fv_ireturn (ft_d o_Mo_action 3 rfl) rfl w
set_option maxRecDepth 20000 in
theorem b_Mo_missedNow_0  {h : ftH} {R : Option ftV → ftH → Prop} 
    (w : ft_V k_Mo_missedNow 4 [some (.inr (.inr 309)), some (.inl 0), some (.inl 0)] [] h R) : ft_V k_Mo_missedNow 0 [some (.inr (.inr 309)), none, none] [] h R := by
  refine fv_iconst (ft_d o_Mo_missedNow 0 rfl) rfl rfl ?_
  refine fv_istore_n (L' := [some (.inr (.inr 309)), some (.inl 0), none]) (ft_d o_Mo_missedNow 1 rfl) rfl (Nat.le_of_ble_eq_true rfl) rfl ?_
  refine fv_iconst (ft_d o_Mo_missedNow 2 rfl) rfl rfl ?_
  refine fv_istore_n (L' := [some (.inr (.inr 309)), some (.inl 0), some (.inl 0)]) (ft_d o_Mo_missedNow 3 rfl) rfl (Nat.le_of_ble_eq_true rfl) rfl ?_
  exact w
set_option maxRecDepth 20000 in
theorem b_Mo_missedNow_4 {x1 : Int} {x2 : Int} {h : ftH} {R : Option ftV → ftH → Prop} 
    (w : ((h 310 1 ≤ x2 → R (some (.inl x1)) h) ∧ (¬ (h 310 1 ≤ x2) → ((0 ≤ x2 ∧ x2 < 40) ∧ (∃ R3 : Option ftV → ftH → Prop, ft_C k_Mo_isHard [.inr (.inr 309), .inl (h 310 (190 + 2 * x2.toNat))] h R3 ∧ ∀ (z5 : Int) (h1 : ftH), ft_in z5 → R3 (some (.inl z5)) h1 → ((¬ (z5 = 0) → ft_V k_Mo_missedNow 4 [some (.inr (.inr 309)), some (.inl x1), some (.inl (ft_add x2 1))] [] h1 R) ∧ (z5 = 0 → ((0 ≤ x2 ∧ x2 < 40) ∧ (∀ n8 : Int, n8 = ft_add x1 (h1 310 (191 + 2 * x2.toNat)) → ft_V k_Mo_missedNow 4 [some (.inr (.inr 309)), some (.inl n8), some (.inl (ft_add x2 1))] [] h1 R))))))))) : ft_V k_Mo_missedNow 4 [some (.inr (.inr 309)), some (.inl x1), some (.inl x2)] [] h R := by
  refine fv_iload_n (ft_d o_Mo_missedNow 4 rfl) rfl rfl ?_
  refine fv_aload_n (ft_d o_Mo_missedNow 5 rfl) rfl rfl ?_
  refine fv_getR (b := 310) (ft_d o_Mo_missedNow 6 rfl) rfl fl_Mo_13 sh_309 rfl ly_309_1 ?_
  refine fv_iconst (ft_d o_Mo_missedNow 7 rfl) rfl rfl ?_
  refine fv_ialdj (j := 1) (ft_d o_Mo_missedNow 8 rfl) rfl sh_310 ⟨by decide, by decide⟩ rfl ?_
  refine fv_icmp_ge (tgt := 40) (ft_d o_Mo_missedNow 9 rfl) rfl rfl (fun c => ?_) (fun c => ?_)
  · have w := w.1 c
    refine fv_iload_n (ft_d o_Mo_missedNow 24 rfl) rfl rfl ?_
    exact fv_ireturn (ft_d o_Mo_missedNow 25 rfl) rfl w
  · have w := w.2 c
    refine fv_aload_n (ft_d o_Mo_missedNow 10 rfl) rfl rfl ?_
    refine fv_aload_n (ft_d o_Mo_missedNow 11 rfl) rfl rfl ?_
    refine fv_iload_n (ft_d o_Mo_missedNow 12 rfl) rfl rfl ?_
    refine fv_callif (st := [.inr (.inr 309)]) (z := h 310 (190 + 2 * x2.toNat)) (Or.inl rfl) rfl (ft_mm (pre := [.inl x2, .inr (.inr 309)]) rfl) (ft_rnV (K' := k_Mo_seenAt) (As := [.inl x2]) (ft_d o_Mo_missedNow 13 rfl) ml_Mo_208 li_Mo_seenAt.1 li_Mo_seenAt.2 lw_Mo_seenAt ⟨rfl, rfl, Nat.le_of_ble_eq_true rfl, Nat.le_of_ble_eq_true rfl⟩ sh_309 rfl rfl rfl rfl (Nat.le_of_ble_eq_true rfl) (c_Mo_seenAt w.1)) ?_
    have w := w.2
    obtain ⟨R3, c4, w⟩ := w
    refine fv_calli (st := []) (Or.inr rfl) rfl (ft_mm (pre := [.inl (h 310 (190 + 2 * x2.toNat)), .inr (.inr 309)]) rfl) (ft_rnV (K' := k_Mo_isHard) (As := [.inl (h 310 (190 + 2 * x2.toNat))]) (ft_d o_Mo_missedNow 14 rfl) ml_Mo_224 li_Mo_isHard.1 li_Mo_isHard.2 lw_Mo_isHard ⟨rfl, rfl, Nat.le_of_ble_eq_true rfl, Nat.le_of_ble_eq_true rfl⟩ sh_309 rfl rfl rfl rfl (Nat.le_of_ble_eq_true rfl) c4) (fun z5 h1 hz hw => ?_)
    have w := w z5 h1 hz hw
    refine fv_if_ne (tgt := 34) (ft_d o_Mo_missedNow 15 rfl) rfl rfl (fun c => ?_) (fun c => ?_)
    · have w := w.1 c
      refine fv_iinc (L' := [some (.inr (.inr 309)), some (.inl x1), some (.inl (ft_add x2 1))]) (ft_d o_Mo_missedNow 22 rfl) rfl rfl (Nat.le_of_ble_eq_true rfl) rfl ?_
      refine fv_goto (pc' := 4) (ft_d o_Mo_missedNow 23 rfl) rfl ?_
      exact w
    · have w := w.2 c
      refine fv_iload_n (ft_d o_Mo_missedNow 16 rfl) rfl rfl ?_
      refine fv_aload_n (ft_d o_Mo_missedNow 17 rfl) rfl rfl ?_
      refine fv_iload_n (ft_d o_Mo_missedNow 18 rfl) rfl rfl ?_
      refine fv_callif (st := [.inl x1]) (z := h1 310 (191 + 2 * x2.toNat)) (Or.inl rfl) rfl (ft_mm (pre := [.inl x2, .inr (.inr 309)]) rfl) (ft_rnV (K' := k_Mo_timesAt) (As := [.inl x2]) (ft_d o_Mo_missedNow 19 rfl) ml_Mo_205 li_Mo_timesAt.1 li_Mo_timesAt.2 lw_Mo_timesAt ⟨rfl, rfl, Nat.le_of_ble_eq_true rfl, Nat.le_of_ble_eq_true rfl⟩ sh_309 rfl rfl rfl rfl (Nat.le_of_ble_eq_true rfl) (c_Mo_timesAt w.1)) ?_
      have w := w.2
      refine fv_iadd (ft_d o_Mo_missedNow 20 rfl) rfl ?_
      generalize en8 : ft_add x1 (h1 310 (191 + 2 * x2.toNat)) = n8
      have w := w n8 en8.symm
      refine fv_istore_n (L' := [some (.inr (.inr 309)), some (.inl n8), some (.inl x2)]) (ft_d o_Mo_missedNow 21 rfl) rfl (Nat.le_of_ble_eq_true rfl) rfl ?_
      refine fv_iinc (L' := [some (.inr (.inr 309)), some (.inl n8), some (.inl (ft_add x2 1))]) (ft_d o_Mo_missedNow 22 rfl) rfl rfl (Nat.le_of_ble_eq_true rfl) rfl ?_
      refine fv_goto (pc' := 4) (ft_d o_Mo_missedNow 23 rfl) rfl ?_
      exact w
set_option maxRecDepth 20000 in
theorem b_Mo_missed_0  {h : ftH} {R : Option ftV → ftH → Prop} 
    (w : (∃ R1 : Option ftV → ftH → Prop, ft_C k_Mo_missedNow [.inr (.inr 309)] h R1 ∧ ∀ (z3 : Int) (h1 : ftH), ft_in z3 → R1 (some (.inl z3)) h1 → R (some (.inl z3)) h1)) : ft_V k_Mo_missed 0 [some (.inr (.inr 309))] [] h R := by
  refine fv_aload_n (ft_d o_Mo_missed 0 rfl) rfl rfl ?_
  obtain ⟨R1, c2, w⟩ := w
  refine fv_calli (st := []) (Or.inl rfl) rfl (ft_mm (pre := [.inr (.inr 309)]) rfl) (ft_rnV (K' := k_Mo_missedNow) (As := []) (ft_d o_Mo_missed 1 rfl) ml_Mo_305 li_Mo_missedNow.1 li_Mo_missedNow.2 lw_Mo_missedNow ⟨rfl, rfl, Nat.le_of_ble_eq_true rfl, Nat.le_of_ble_eq_true rfl⟩ sh_309 rfl rfl rfl rfl (Nat.le_of_ble_eq_true rfl) c2) (fun z3 h1 hz hw => ?_)
  have w := w z3 h1 hz hw
  exact fv_ireturn (ft_d o_Mo_missed 2 rfl) rfl w
set_option maxRecDepth 20000 in
theorem b_Mo_targetAt_0 {x1 : Int} {x2 : Int} {h : ftH} {R : Option ftV → ftH → Prop} 
    (w : ft_V k_Mo_targetAt 2 [some (.inr (.inr 309)), some (.inl x1), some (.inl x2), some (.inl 0)] [] h R) : ft_V k_Mo_targetAt 0 [some (.inr (.inr 309)), some (.inl x1), some (.inl x2), none] [] h R := by
  refine fv_iconst (ft_d o_Mo_targetAt 0 rfl) rfl rfl ?_
  refine fv_istore_n (L' := [some (.inr (.inr 309)), some (.inl x1), some (.inl x2), some (.inl 0)]) (ft_d o_Mo_targetAt 1 rfl) rfl (Nat.le_of_ble_eq_true rfl) rfl ?_
  exact w
set_option maxRecDepth 20000 in
theorem b_Mo_targetAt_2 {x1 : Int} {x2 : Int} {x3 : Int} {h : ftH} {R : Option ftV → ftH → Prop} 
    (w : ((h 309 26 ≤ x3 → R (some (.inl ((-2)))) h) ∧ (¬ (h 309 26 ≤ x3) → ((0 ≤ x3 ∧ x3 < 64) ∧ ((¬ (h 326 x3.toNat = x1) → ft_V k_Mo_targetAt 2 [some (.inr (.inr 309)), some (.inl x1), some (.inl x2), some (.inl (ft_add x3 1))] [] h R) ∧ (h 326 x3.toNat = x1 → ((0 ≤ x3 ∧ x3 < 64) ∧ ((¬ (h 327 x3.toNat = x2) → ft_V k_Mo_targetAt 2 [some (.inr (.inr 309)), some (.inl x1), some (.inl x2), some (.inl (ft_add x3 1))] [] h R) ∧ (h 327 x3.toNat = x2 → R (some (.inl x3)) h))))))))) : ft_V k_Mo_targetAt 2 [some (.inr (.inr 309)), some (.inl x1), some (.inl x2), some (.inl x3)] [] h R := by
  refine fv_iload_n (ft_d o_Mo_targetAt 2 rfl) rfl rfl ?_
  refine fv_aload_n (ft_d o_Mo_targetAt 3 rfl) rfl rfl ?_
  refine fv_getI (ft_d o_Mo_targetAt 4 rfl) rfl fl_Mo_292 sh_309 rfl ?_
  refine fv_icmp_ge (tgt := 38) (ft_d o_Mo_targetAt 5 rfl) rfl rfl (fun c => ?_) (fun c => ?_)
  · have w := w.1 c
    refine fv_bipush (ft_d o_Mo_targetAt 22 rfl) rfl rfl ?_
    exact fv_ireturn (ft_d o_Mo_targetAt 23 rfl) rfl w
  · have w := w.2 c
    refine fv_aload_n (ft_d o_Mo_targetAt 6 rfl) rfl rfl ?_
    refine fv_getR (b := 326) (ft_d o_Mo_targetAt 7 rfl) rfl fl_Mo_62 sh_309 rfl ly_309_23 ?_
    refine fv_iload_n (ft_d o_Mo_targetAt 8 rfl) rfl rfl ?_
    refine fv_iald (ft_d o_Mo_targetAt 9 rfl) rfl sh_326 w.1 ?_
    have w := w.2
    refine fv_iload_n (ft_d o_Mo_targetAt 10 rfl) rfl rfl ?_
    refine fv_icmp_ne (tgt := 32) (ft_d o_Mo_targetAt 11 rfl) rfl rfl (fun c => ?_) (fun c => ?_)
    · have w := w.1 c
      refine fv_iinc (L' := [some (.inr (.inr 309)), some (.inl x1), some (.inl x2), some (.inl (ft_add x3 1))]) (ft_d o_Mo_targetAt 20 rfl) rfl rfl (Nat.le_of_ble_eq_true rfl) rfl ?_
      refine fv_goto (pc' := 2) (ft_d o_Mo_targetAt 21 rfl) rfl ?_
      exact w
    · have w := w.2 c
      refine fv_aload_n (ft_d o_Mo_targetAt 12 rfl) rfl rfl ?_
      refine fv_getR (b := 327) (ft_d o_Mo_targetAt 13 rfl) rfl fl_Mo_65 sh_309 rfl ly_309_24 ?_
      refine fv_iload_n (ft_d o_Mo_targetAt 14 rfl) rfl rfl ?_
      refine fv_iald (ft_d o_Mo_targetAt 15 rfl) rfl sh_327 w.1 ?_
      have w := w.2
      refine fv_iload_n (ft_d o_Mo_targetAt 16 rfl) rfl rfl ?_
      refine fv_icmp_ne (tgt := 32) (ft_d o_Mo_targetAt 17 rfl) rfl rfl (fun c => ?_) (fun c => ?_)
      · have w := w.1 c
        refine fv_iinc (L' := [some (.inr (.inr 309)), some (.inl x1), some (.inl x2), some (.inl (ft_add x3 1))]) (ft_d o_Mo_targetAt 20 rfl) rfl rfl (Nat.le_of_ble_eq_true rfl) rfl ?_
        refine fv_goto (pc' := 2) (ft_d o_Mo_targetAt 21 rfl) rfl ?_
        exact w
      · have w := w.2 c
        refine fv_iload_n (ft_d o_Mo_targetAt 18 rfl) rfl rfl ?_
        exact fv_ireturn (ft_d o_Mo_targetAt 19 rfl) rfl w
set_option maxRecDepth 20000 in
theorem b_Mo_preparesSync_0  {h : ftH} {R : Option ftV → ftH → Prop} 
    (w : (∃ R1 : Option ftV → ftH → Prop, ft_C k_Mo_laysTarget [.inr (.inr 309)] h R1 ∧ ∀ h1 : ftH, R1 none h1 → (∀ n3 : Int, n3 = h1 310 2 → ft_V k_Mo_preparesSync 13 [some (.inr (.inr 309)), some (.inl n3), some (.inl 0)] [] h1 R))) : ft_V k_Mo_preparesSync 0 [some (.inr (.inr 309)), none, none] [] h R := by
  refine fv_aload_n (ft_d o_Mo_preparesSync 0 rfl) rfl rfl ?_
  obtain ⟨R1, c2, w⟩ := w
  refine fv_callv (st := []) rfl rfl (ft_mm (pre := [.inr (.inr 309)]) rfl) (ft_rnV (K' := k_Mo_laysTarget) (As := []) (ft_d o_Mo_preparesSync 1 rfl) ml_Mo_295 li_Mo_laysTarget.1 li_Mo_laysTarget.2 lw_Mo_laysTarget ⟨rfl, rfl, Nat.le_of_ble_eq_true rfl, Nat.le_of_ble_eq_true rfl⟩ sh_309 rfl rfl rfl rfl (Nat.le_of_ble_eq_true rfl) c2) (fun h1 hw => ?_)
  have w := w h1 hw
  refine fv_aload_n (ft_d o_Mo_preparesSync 2 rfl) rfl rfl ?_
  refine fv_getR (b := 310) (ft_d o_Mo_preparesSync 3 rfl) rfl fl_Mo_13 sh_309 rfl ly_309_1 ?_
  refine fv_iconst (ft_d o_Mo_preparesSync 4 rfl) rfl rfl ?_
  refine fv_ialdj (j := 2) (ft_d o_Mo_preparesSync 5 rfl) rfl sh_310 ⟨by decide, by decide⟩ rfl ?_
  generalize en3 : h1 310 2 = n3
  have w := w n3 en3.symm
  refine fv_istore_n (L' := [some (.inr (.inr 309)), some (.inl n3), none]) (ft_d o_Mo_preparesSync 6 rfl) rfl (Nat.le_of_ble_eq_true rfl) rfl ?_
  refine fv_iconst (ft_d o_Mo_preparesSync 7 rfl) rfl rfl ?_
  refine fv_istore_n (L' := [some (.inr (.inr 309)), some (.inl n3), some (.inl 0)]) (ft_d o_Mo_preparesSync 8 rfl) rfl (Nat.le_of_ble_eq_true rfl) rfl ?_
  exact w
set_option maxRecDepth 20000 in
theorem b_Mo_preparesSync_13 {x1 : Int} {x2 : Int} {h : ftH} {R : Option ftV → ftH → Prop} 
    (w : ((h 309 26 ≤ x2 → ((x1 ≤ ft_mul 2 (h 310 3) → R none h) ∧ (¬ (x1 ≤ ft_mul 2 (h 310 3)) → (∃ R1 : Option ftV → ftH → Prop, ft_C k_Mo_clears [.inr (.inr 309)] h R1 ∧ ∀ h1 : ftH, R1 none h1 → R none h1)))) ∧ (¬ (h 309 26 ≤ x2) → ((0 ≤ x2 ∧ x2 < 64) ∧ ((0 ≤ x2 ∧ x2 < 64) ∧ (∃ R3 : Option ftV → ftH → Prop, ft_C k_Mo_placeOf [.inr (.inr 309), .inl 270, .inl (h 310 2), .inl (h 326 x2.toNat), .inl (h 327 x2.toNat)] h R3 ∧ ∀ (z5 : Int) (h2 : ftH), ft_in z5 → R3 (some (.inl z5)) h2 → ((0 ≤ z5 → ft_V k_Mo_preparesSync 13 [some (.inr (.inr 309)), some (.inl x1), some (.inl (ft_add x2 1))] [] h2 R) ∧ (¬ (0 ≤ z5) → ft_V k_Mo_preparesSync 13 [some (.inr (.inr 309)), some (.inl (ft_add x1 1)), some (.inl (ft_add x2 1))] [] h2 R)))))))) : ft_V k_Mo_preparesSync 13 [some (.inr (.inr 309)), some (.inl x1), some (.inl x2)] [] h R := by
  refine fv_iload_n (ft_d o_Mo_preparesSync 9 rfl) rfl rfl ?_
  refine fv_aload_n (ft_d o_Mo_preparesSync 10 rfl) rfl rfl ?_
  refine fv_getI (ft_d o_Mo_preparesSync 11 rfl) rfl fl_Mo_292 sh_309 rfl ?_
  refine fv_icmp_ge (tgt := 58) (ft_d o_Mo_preparesSync 12 rfl) rfl rfl (fun c => ?_) (fun c => ?_)
  · have w := w.1 c
    refine fv_iload_n (ft_d o_Mo_preparesSync 32 rfl) rfl rfl ?_
    refine fv_iconst (ft_d o_Mo_preparesSync 33 rfl) rfl rfl ?_
    refine fv_aload_n (ft_d o_Mo_preparesSync 34 rfl) rfl rfl ?_
    refine fv_getR (b := 310) (ft_d o_Mo_preparesSync 35 rfl) rfl fl_Mo_13 sh_309 rfl ly_309_1 ?_
    refine fv_iconst (ft_d o_Mo_preparesSync 36 rfl) rfl rfl ?_
    refine fv_ialdj (j := 3) (ft_d o_Mo_preparesSync 37 rfl) rfl sh_310 ⟨by decide, by decide⟩ rfl ?_
    refine fv_imul (ft_d o_Mo_preparesSync 38 rfl) rfl ?_
    refine fv_icmp_le (tgt := 74) (ft_d o_Mo_preparesSync 39 rfl) rfl rfl (fun c => ?_) (fun c => ?_)
    · have w := w.1 c
      exact fv_return (ft_d o_Mo_preparesSync 42 rfl) rfl w
    · have w := w.2 c
      refine fv_aload_n (ft_d o_Mo_preparesSync 40 rfl) rfl rfl ?_
      obtain ⟨R1, c2, w⟩ := w
      refine fv_callv (st := []) rfl rfl (ft_mm (pre := [.inr (.inr 309)]) rfl) (ft_rnV (K' := k_Mo_clears) (As := []) (ft_d o_Mo_preparesSync 41 rfl) ml_Mo_186 li_Mo_clears.1 li_Mo_clears.2 lw_Mo_clears ⟨rfl, rfl, Nat.le_of_ble_eq_true rfl, Nat.le_of_ble_eq_true rfl⟩ sh_309 rfl rfl rfl rfl (Nat.le_of_ble_eq_true rfl) c2) (fun h1 hw => ?_)
      have w := w h1 hw
      exact fv_return (ft_d o_Mo_preparesSync 42 rfl) rfl w
  · have w := w.2 c
    refine fv_aload_n (ft_d o_Mo_preparesSync 13 rfl) rfl rfl ?_
    refine fv_sipush (ft_d o_Mo_preparesSync 14 rfl) rfl rfl ?_
    refine fv_aload_n (ft_d o_Mo_preparesSync 15 rfl) rfl rfl ?_
    refine fv_getR (b := 310) (ft_d o_Mo_preparesSync 16 rfl) rfl fl_Mo_13 sh_309 rfl ly_309_1 ?_
    refine fv_iconst (ft_d o_Mo_preparesSync 17 rfl) rfl rfl ?_
    refine fv_ialdj (j := 2) (ft_d o_Mo_preparesSync 18 rfl) rfl sh_310 ⟨by decide, by decide⟩ rfl ?_
    refine fv_aload_n (ft_d o_Mo_preparesSync 19 rfl) rfl rfl ?_
    refine fv_getR (b := 326) (ft_d o_Mo_preparesSync 20 rfl) rfl fl_Mo_62 sh_309 rfl ly_309_23 ?_
    refine fv_iload_n (ft_d o_Mo_preparesSync 21 rfl) rfl rfl ?_
    refine fv_iald (ft_d o_Mo_preparesSync 22 rfl) rfl sh_326 w.1 ?_
    have w := w.2
    refine fv_aload_n (ft_d o_Mo_preparesSync 23 rfl) rfl rfl ?_
    refine fv_getR (b := 327) (ft_d o_Mo_preparesSync 24 rfl) rfl fl_Mo_65 sh_309 rfl ly_309_24 ?_
    refine fv_iload_n (ft_d o_Mo_preparesSync 25 rfl) rfl rfl ?_
    refine fv_iald (ft_d o_Mo_preparesSync 26 rfl) rfl sh_327 w.1 ?_
    have w := w.2
    obtain ⟨R3, c4, w⟩ := w
    refine fv_calli (st := []) (Or.inl rfl) rfl (ft_mm (pre := [.inl (h 327 x2.toNat), .inl (h 326 x2.toNat), .inl (h 310 2), .inl 270, .inr (.inr 309)]) rfl) (ft_rnV (K' := k_Mo_placeOf) (As := [.inl 270, .inl (h 310 2), .inl (h 326 x2.toNat), .inl (h 327 x2.toNat)]) (ft_d o_Mo_preparesSync 27 rfl) ml_Mo_193 li_Mo_placeOf.1 li_Mo_placeOf.2 lw_Mo_placeOf ⟨rfl, rfl, Nat.le_of_ble_eq_true rfl, Nat.le_of_ble_eq_true rfl⟩ sh_309 rfl rfl rfl rfl (Nat.le_of_ble_eq_true rfl) c4) (fun z5 h2 hz hw => ?_)
    have w := w z5 h2 hz hw
    refine fv_if_ge (tgt := 52) (ft_d o_Mo_preparesSync 28 rfl) rfl rfl (fun c => ?_) (fun c => ?_)
    · have w := w.1 c
      refine fv_iinc (L' := [some (.inr (.inr 309)), some (.inl x1), some (.inl (ft_add x2 1))]) (ft_d o_Mo_preparesSync 30 rfl) rfl rfl (Nat.le_of_ble_eq_true rfl) rfl ?_
      refine fv_goto (pc' := 13) (ft_d o_Mo_preparesSync 31 rfl) rfl ?_
      exact w
    · have w := w.2 c
      refine fv_iinc (L' := [some (.inr (.inr 309)), some (.inl (ft_add x1 1)), some (.inl x2)]) (ft_d o_Mo_preparesSync 29 rfl) rfl rfl (Nat.le_of_ble_eq_true rfl) rfl ?_
      refine fv_iinc (L' := [some (.inr (.inr 309)), some (.inl (ft_add x1 1)), some (.inl (ft_add x2 1))]) (ft_d o_Mo_preparesSync 30 rfl) rfl rfl (Nat.le_of_ble_eq_true rfl) rfl ?_
      refine fv_goto (pc' := 13) (ft_d o_Mo_preparesSync 31 rfl) rfl ?_
      exact w
set_option maxRecDepth 20000 in
theorem b_Mo_changesOne_0  {h : ftH} {R : Option ftV → ftH → Prop} 
    (w : (∀ n1 : Int, n1 = (-2) → ft_V k_Mo_changesOne 5 [some (.inr (.inr 309)), some (.inl n1), some (.inl 0), none] [] h R)) : ft_V k_Mo_changesOne 0 [some (.inr (.inr 309)), none, none, none] [] h R := by
  refine fv_bipush (ft_d o_Mo_changesOne 0 rfl) rfl rfl ?_
  generalize en1 : (-2) = n1
  have w := w n1 en1.symm
  refine fv_istore_n (L' := [some (.inr (.inr 309)), some (.inl n1), none, none]) (ft_d o_Mo_changesOne 1 rfl) rfl (Nat.le_of_ble_eq_true rfl) rfl ?_
  refine fv_iconst (ft_d o_Mo_changesOne 2 rfl) rfl rfl ?_
  refine fv_istore_n (L' := [some (.inr (.inr 309)), some (.inl n1), some (.inl 0), none]) (ft_d o_Mo_changesOne 3 rfl) rfl (Nat.le_of_ble_eq_true rfl) rfl ?_
  exact w
set_option maxRecDepth 20000 in
theorem b_Mo_changesOne_5 {x1 : Int} {x2 : Int} {h : ftH} {R : Option ftV → ftH → Prop} 
    (w : ((h 309 26 ≤ x2 → ((0 ≤ x1 → ((0 ≤ x1 ∧ x1 < 64) ∧ ((0 ≤ x1 ∧ x1 < 64) ∧ (∃ R1 : Option ftV → ftH → Prop, ft_C k_Mo_placeOf [.inr (.inr 309), .inl 270, .inl (h 310 2), .inl (h 326 x1.toNat), .inl (h 327 x1.toNat)] h R1 ∧ ∀ (z3 : Int) (h1 : ftH), ft_in z3 → R1 (some (.inl z3)) h1 → ((0 ≤ x1 ∧ x1 < 64) ∧ (∀ h2 : ftH, h2 = ft_hs h1 309 27 (h1 326 x1.toNat) → ((0 ≤ x1 ∧ x1 < 64) ∧ (∀ h3 : ftH, h3 = ft_hs h2 309 28 (h2 327 x1.toNat) → ((0 ≤ x1 ∧ x1 < 64) ∧ (∀ h4 : ftH, h4 = ft_hs h3 309 30 (h3 328 x1.toNat) → ((0 ≤ z3 → ft_V k_Mo_changesOne 162 [some (.inr (.inr 309)), none, some (.inl z3), none] [.inl 1, .inr (.inr 309)] h4 R) ∧ (¬ (0 ≤ z3) → ft_V k_Mo_changesOne 162 [some (.inr (.inr 309)), none, some (.inl z3), none] [.inl 0, .inr (.inr 309)] h4 R)))))))))))) ∧ (¬ (0 ≤ x1) → (∃ R4 : Option ftV → ftH → Prop, ft_C k_Mo_removesOne [.inr (.inr 309)] h R4 ∧ ∀ (z6 : Int) (h5 : ftH), ft_in z6 → R4 (some (.inl z6)) h5 → ((z6 = 0 ∨ z6 = 1) ∧ R (some (.inl z6)) h5))))) ∧ (¬ (h 309 26 ≤ x2) → ((0 ≤ x2 ∧ x2 < 64) ∧ ((0 ≤ x2 ∧ x2 < 64) ∧ (∃ R7 : Option ftV → ftH → Prop, ft_C k_Mo_placeOf [.inr (.inr 309), .inl 270, .inl (h 310 2), .inl (h 326 x2.toNat), .inl (h 327 x2.toNat)] h R7 ∧ ∀ (z9 : Int) (h6 : ftH), ft_in z9 → R7 (some (.inl z9)) h6 → ((z9 < 0 → ft_V k_Mo_changesOne 60 [some (.inr (.inr 309)), some (.inl x1), some (.inl x2), none] [] h6 R) ∧ (¬ (z9 < 0) → ((0 ≤ z9 ∧ z9 < 80) ∧ ((0 ≤ x2 ∧ x2 < 64) ∧ ((¬ (h6 310 (272 + 3 * z9.toNat) = h6 328 x2.toNat) → ft_V k_Mo_changesOne 60 [some (.inr (.inr 309)), some (.inl x1), some (.inl x2), none] [] h6 R) ∧ (h6 310 (272 + 3 * z9.toNat) = h6 328 x2.toNat → ft_V k_Mo_changesOne 81 [some (.inr (.inr 309)), some (.inl x1), some (.inl x2), none] [] h6 R)))))))))))) : ft_V k_Mo_changesOne 5 [some (.inr (.inr 309)), some (.inl x1), some (.inl x2), none] [] h R := by
  refine fv_iload_n (ft_d o_Mo_changesOne 4 rfl) rfl rfl ?_
  refine fv_aload_n (ft_d o_Mo_changesOne 5 rfl) rfl rfl ?_
  refine fv_getI (ft_d o_Mo_changesOne 6 rfl) rfl fl_Mo_292 sh_309 rfl ?_
  refine fv_icmp_ge (tgt := 87) (ft_d o_Mo_changesOne 7 rfl) rfl rfl (fun c => ?_) (fun c => ?_)
  · have w := w.1 c
    refine fv_iload_n (ft_d o_Mo_changesOne 50 rfl) rfl rfl ?_
    refine fv_if_ge (tgt := 96) (ft_d o_Mo_changesOne 51 rfl) rfl rfl (fun c => ?_) (fun c => ?_)
    · have w := w.1 c
      refine fv_aload_n (ft_d o_Mo_changesOne 55 rfl) rfl rfl ?_
      refine fv_sipush (ft_d o_Mo_changesOne 56 rfl) rfl rfl ?_
      refine fv_aload_n (ft_d o_Mo_changesOne 57 rfl) rfl rfl ?_
      refine fv_getR (b := 310) (ft_d o_Mo_changesOne 58 rfl) rfl fl_Mo_13 sh_309 rfl ly_309_1 ?_
      refine fv_iconst (ft_d o_Mo_changesOne 59 rfl) rfl rfl ?_
      refine fv_ialdj (j := 2) (ft_d o_Mo_changesOne 60 rfl) rfl sh_310 ⟨by decide, by decide⟩ rfl ?_
      refine fv_aload_n (ft_d o_Mo_changesOne 61 rfl) rfl rfl ?_
      refine fv_getR (b := 326) (ft_d o_Mo_changesOne 62 rfl) rfl fl_Mo_62 sh_309 rfl ly_309_23 ?_
      refine fv_iload_n (ft_d o_Mo_changesOne 63 rfl) rfl rfl ?_
      refine fv_iald (ft_d o_Mo_changesOne 64 rfl) rfl sh_326 w.1 ?_
      have w := w.2
      refine fv_aload_n (ft_d o_Mo_changesOne 65 rfl) rfl rfl ?_
      refine fv_getR (b := 327) (ft_d o_Mo_changesOne 66 rfl) rfl fl_Mo_65 sh_309 rfl ly_309_24 ?_
      refine fv_iload_n (ft_d o_Mo_changesOne 67 rfl) rfl rfl ?_
      refine fv_iald (ft_d o_Mo_changesOne 68 rfl) rfl sh_327 w.1 ?_
      have w := w.2
      obtain ⟨R1, c2, w⟩ := w
      refine fv_calli (st := []) (Or.inl rfl) rfl (ft_mm (pre := [.inl (h 327 x1.toNat), .inl (h 326 x1.toNat), .inl (h 310 2), .inl 270, .inr (.inr 309)]) rfl) (ft_rnV (K' := k_Mo_placeOf) (As := [.inl 270, .inl (h 310 2), .inl (h 326 x1.toNat), .inl (h 327 x1.toNat)]) (ft_d o_Mo_changesOne 69 rfl) ml_Mo_193 li_Mo_placeOf.1 li_Mo_placeOf.2 lw_Mo_placeOf ⟨rfl, rfl, Nat.le_of_ble_eq_true rfl, Nat.le_of_ble_eq_true rfl⟩ sh_309 rfl rfl rfl rfl (Nat.le_of_ble_eq_true rfl) c2) (fun z3 h1 hz hw => ?_)
      have w := w z3 h1 hz hw
      refine fv_istore_n (L' := [some (.inr (.inr 309)), some (.inl x1), some (.inl z3), none]) (ft_d o_Mo_changesOne 70 rfl) rfl (Nat.le_of_ble_eq_true rfl) rfl ?_
      refine fv_aload_n (ft_d o_Mo_changesOne 71 rfl) rfl rfl ?_
      refine fv_aload_n (ft_d o_Mo_changesOne 72 rfl) rfl rfl ?_
      refine fv_getR (b := 326) (ft_d o_Mo_changesOne 73 rfl) rfl fl_Mo_62 sh_309 rfl ly_309_23 ?_
      refine fv_iload_n (ft_d o_Mo_changesOne 74 rfl) rfl rfl ?_
      refine fv_iald (ft_d o_Mo_changesOne 75 rfl) rfl sh_326 w.1 ?_
      have w := w.2
      refine fv_putI (ft_d o_Mo_changesOne 76 rfl) rfl fl_Mo_312 rfl rfl sh_309 rfl ?_
      generalize eh2 : ft_hs h1 309 27 (h1 326 x1.toNat) = h2
      have w := w h2 eh2.symm
      refine fv_aload_n (ft_d o_Mo_changesOne 77 rfl) rfl rfl ?_
      refine fv_aload_n (ft_d o_Mo_changesOne 78 rfl) rfl rfl ?_
      refine fv_getR (b := 327) (ft_d o_Mo_changesOne 79 rfl) rfl fl_Mo_65 sh_309 rfl ly_309_24 ?_
      refine fv_iload_n (ft_d o_Mo_changesOne 80 rfl) rfl rfl ?_
      refine fv_iald (ft_d o_Mo_changesOne 81 rfl) rfl sh_327 w.1 ?_
      have w := w.2
      refine fv_putI (ft_d o_Mo_changesOne 82 rfl) rfl fl_Mo_315 rfl rfl sh_309 rfl ?_
      generalize eh3 : ft_hs h2 309 28 (h2 327 x1.toNat) = h3
      have w := w h3 eh3.symm
      refine fv_aload_n (ft_d o_Mo_changesOne 83 rfl) rfl rfl ?_
      refine fv_aload_n (ft_d o_Mo_changesOne 84 rfl) rfl rfl ?_
      refine fv_getR (b := 328) (ft_d o_Mo_changesOne 85 rfl) rfl fl_Mo_68 sh_309 rfl ly_309_25 ?_
      refine fv_iload_n (ft_d o_Mo_changesOne 86 rfl) rfl rfl ?_
      refine fv_iald (ft_d o_Mo_changesOne 87 rfl) rfl sh_328 w.1 ?_
      have w := w.2
      refine fv_putI (ft_d o_Mo_changesOne 88 rfl) rfl fl_Mo_318 rfl rfl sh_309 rfl ?_
      generalize eh4 : ft_hs h3 309 30 (h3 328 x1.toNat) = h4
      have w := w h4 eh4.symm
      refine fv_aload_n (ft_d o_Mo_changesOne 89 rfl) rfl rfl ?_
      refine fv_iload_n (ft_d o_Mo_changesOne 90 rfl) rfl rfl ?_
      refine fv_if_ge (tgt := 161) (ft_d o_Mo_changesOne 91 rfl) rfl rfl (fun c => ?_) (fun c => ?_)
      · have w := w.1 c
        refine fv_iconst (ft_d o_Mo_changesOne 94 rfl) rfl rfl ?_
        refine fv_mask (M := [true, false, true, false]) rfl ?_
        exact w
      · have w := w.2 c
        refine fv_iconst (ft_d o_Mo_changesOne 92 rfl) rfl rfl ?_
        refine fv_goto (pc' := 162) (ft_d o_Mo_changesOne 93 rfl) rfl ?_
        refine fv_mask (M := [true, false, true, false]) rfl ?_
        exact w
    · have w := w.2 c
      refine fv_aload_n (ft_d o_Mo_changesOne 52 rfl) rfl rfl ?_
      obtain ⟨R4, c5, w⟩ := w
      refine fv_calli (st := []) (Or.inr rfl) rfl (ft_mm (pre := [.inr (.inr 309)]) rfl) (ft_rnV (K' := k_Mo_removesOne) (As := []) (ft_d o_Mo_changesOne 53 rfl) ml_Mo_308 li_Mo_removesOne.1 li_Mo_removesOne.2 lw_Mo_removesOne ⟨rfl, rfl, Nat.le_of_ble_eq_true rfl, Nat.le_of_ble_eq_true rfl⟩ sh_309 rfl rfl rfl rfl (Nat.le_of_ble_eq_true rfl) c5) (fun z6 h5 hz hw => ?_)
      have w := w z6 h5 hz hw
      exact fv_zreturn (ft_d o_Mo_changesOne 54 rfl) rfl w.1 w.2
  · have w := w.2 c
    refine fv_aload_n (ft_d o_Mo_changesOne 8 rfl) rfl rfl ?_
    refine fv_sipush (ft_d o_Mo_changesOne 9 rfl) rfl rfl ?_
    refine fv_aload_n (ft_d o_Mo_changesOne 10 rfl) rfl rfl ?_
    refine fv_getR (b := 310) (ft_d o_Mo_changesOne 11 rfl) rfl fl_Mo_13 sh_309 rfl ly_309_1 ?_
    refine fv_iconst (ft_d o_Mo_changesOne 12 rfl) rfl rfl ?_
    refine fv_ialdj (j := 2) (ft_d o_Mo_changesOne 13 rfl) rfl sh_310 ⟨by decide, by decide⟩ rfl ?_
    refine fv_aload_n (ft_d o_Mo_changesOne 14 rfl) rfl rfl ?_
    refine fv_getR (b := 326) (ft_d o_Mo_changesOne 15 rfl) rfl fl_Mo_62 sh_309 rfl ly_309_23 ?_
    refine fv_iload_n (ft_d o_Mo_changesOne 16 rfl) rfl rfl ?_
    refine fv_iald (ft_d o_Mo_changesOne 17 rfl) rfl sh_326 w.1 ?_
    have w := w.2
    refine fv_aload_n (ft_d o_Mo_changesOne 18 rfl) rfl rfl ?_
    refine fv_getR (b := 327) (ft_d o_Mo_changesOne 19 rfl) rfl fl_Mo_65 sh_309 rfl ly_309_24 ?_
    refine fv_iload_n (ft_d o_Mo_changesOne 20 rfl) rfl rfl ?_
    refine fv_iald (ft_d o_Mo_changesOne 21 rfl) rfl sh_327 w.1 ?_
    have w := w.2
    obtain ⟨R7, c8, w⟩ := w
    refine fv_calli (st := []) (Or.inl rfl) rfl (ft_mm (pre := [.inl (h 327 x2.toNat), .inl (h 326 x2.toNat), .inl (h 310 2), .inl 270, .inr (.inr 309)]) rfl) (ft_rnV (K' := k_Mo_placeOf) (As := [.inl 270, .inl (h 310 2), .inl (h 326 x2.toNat), .inl (h 327 x2.toNat)]) (ft_d o_Mo_changesOne 22 rfl) ml_Mo_193 li_Mo_placeOf.1 li_Mo_placeOf.2 lw_Mo_placeOf ⟨rfl, rfl, Nat.le_of_ble_eq_true rfl, Nat.le_of_ble_eq_true rfl⟩ sh_309 rfl rfl rfl rfl (Nat.le_of_ble_eq_true rfl) c8) (fun z9 h6 hz hw => ?_)
    have w := w z9 h6 hz hw
    refine fv_istore_n (L' := [some (.inr (.inr 309)), some (.inl x1), some (.inl x2), some (.inl z9)]) (ft_d o_Mo_changesOne 23 rfl) rfl (Nat.le_of_ble_eq_true rfl) rfl ?_
    refine fv_iload_n (ft_d o_Mo_changesOne 24 rfl) rfl rfl ?_
    refine fv_if_lt (tgt := 60) (ft_d o_Mo_changesOne 25 rfl) rfl rfl (fun c => ?_) (fun c => ?_)
    · have w := w.1 c
      refine fv_mask (M := [true, true, true, false]) rfl ?_
      exact w
    · have w := w.2 c
      refine fv_aload_n (ft_d o_Mo_changesOne 26 rfl) rfl rfl ?_
      refine fv_iload_n (ft_d o_Mo_changesOne 27 rfl) rfl rfl ?_
      refine fv_callif (st := []) (z := h6 310 (272 + 3 * z9.toNat)) (Or.inl rfl) rfl (ft_mm (pre := [.inl z9, .inr (.inr 309)]) rfl) (ft_rnV (K' := k_Mo_actionIn) (As := [.inl z9]) (ft_d o_Mo_changesOne 28 rfl) ml_Mo_157 li_Mo_actionIn.1 li_Mo_actionIn.2 lw_Mo_actionIn ⟨rfl, rfl, Nat.le_of_ble_eq_true rfl, Nat.le_of_ble_eq_true rfl⟩ sh_309 rfl rfl rfl rfl (Nat.le_of_ble_eq_true rfl) (c_Mo_actionIn w.1)) ?_
      have w := w.2
      refine fv_aload_n (ft_d o_Mo_changesOne 29 rfl) rfl rfl ?_
      refine fv_getR (b := 328) (ft_d o_Mo_changesOne 30 rfl) rfl fl_Mo_68 sh_309 rfl ly_309_25 ?_
      refine fv_iload_n (ft_d o_Mo_changesOne 31 rfl) rfl rfl ?_
      refine fv_iald (ft_d o_Mo_changesOne 32 rfl) rfl sh_328 w.1 ?_
      have w := w.2
      refine fv_icmp_ne (tgt := 60) (ft_d o_Mo_changesOne 33 rfl) rfl rfl (fun c => ?_) (fun c => ?_)
      · have w := w.1 c
        refine fv_mask (M := [true, true, true, false]) rfl ?_
        exact w
      · have w := w.2 c
        refine fv_goto (pc' := 81) (ft_d o_Mo_changesOne 34 rfl) rfl ?_
        refine fv_mask (M := [true, true, true, false]) rfl ?_
        exact w
set_option maxRecDepth 20000 in
theorem b_Mo_changesOne_60 {x1 : Int} {x2 : Int} {h : ftH} {R : Option ftV → ftH → Prop} 
    (w : ((x1 < 0 → ft_V k_Mo_changesOne 79 [some (.inr (.inr 309)), none, some (.inl x2), none] [] h R) ∧ (¬ (x1 < 0) → ((0 ≤ x2 ∧ x2 < 64) ∧ ((0 ≤ x1 ∧ x1 < 64) ∧ ((h 327 x2.toNat ≤ h 327 x1.toNat → ft_V k_Mo_changesOne 81 [some (.inr (.inr 309)), some (.inl x1), some (.inl x2), none] [] h R) ∧ (¬ (h 327 x2.toNat ≤ h 327 x1.toNat) → ft_V k_Mo_changesOne 79 [some (.inr (.inr 309)), none, some (.inl x2), none] [] h R))))))) : ft_V k_Mo_changesOne 60 [some (.inr (.inr 309)), some (.inl x1), some (.inl x2), none] [] h R := by
  refine fv_iload_n (ft_d o_Mo_changesOne 35 rfl) rfl rfl ?_
  refine fv_if_lt (tgt := 79) (ft_d o_Mo_changesOne 36 rfl) rfl rfl (fun c => ?_) (fun c => ?_)
  · have w := w.1 c
    refine fv_mask (M := [true, false, true, false]) rfl ?_
    exact w
  · have w := w.2 c
    refine fv_aload_n (ft_d o_Mo_changesOne 37 rfl) rfl rfl ?_
    refine fv_getR (b := 327) (ft_d o_Mo_changesOne 38 rfl) rfl fl_Mo_65 sh_309 rfl ly_309_24 ?_
    refine fv_iload_n (ft_d o_Mo_changesOne 39 rfl) rfl rfl ?_
    refine fv_iald (ft_d o_Mo_changesOne 40 rfl) rfl sh_327 w.1 ?_
    have w := w.2
    refine fv_aload_n (ft_d o_Mo_changesOne 41 rfl) rfl rfl ?_
    refine fv_getR (b := 327) (ft_d o_Mo_changesOne 42 rfl) rfl fl_Mo_65 sh_309 rfl ly_309_24 ?_
    refine fv_iload_n (ft_d o_Mo_changesOne 43 rfl) rfl rfl ?_
    refine fv_iald (ft_d o_Mo_changesOne 44 rfl) rfl sh_327 w.1 ?_
    have w := w.2
    refine fv_icmp_le (tgt := 81) (ft_d o_Mo_changesOne 45 rfl) rfl rfl (fun c => ?_) (fun c => ?_)
    · have w := w.1 c
      exact w
    · have w := w.2 c
      refine fv_mask (M := [true, false, true, false]) rfl ?_
      exact w
set_option maxRecDepth 20000 in
theorem b_Mo_changesOne_79 {x2 : Int} {h : ftH} {R : Option ftV → ftH → Prop} 
    (w : ft_V k_Mo_changesOne 81 [some (.inr (.inr 309)), some (.inl x2), some (.inl x2), none] [] h R) : ft_V k_Mo_changesOne 79 [some (.inr (.inr 309)), none, some (.inl x2), none] [] h R := by
  refine fv_iload_n (ft_d o_Mo_changesOne 46 rfl) rfl rfl ?_
  refine fv_istore_n (L' := [some (.inr (.inr 309)), some (.inl x2), some (.inl x2), none]) (ft_d o_Mo_changesOne 47 rfl) rfl (Nat.le_of_ble_eq_true rfl) rfl ?_
  exact w
set_option maxRecDepth 20000 in
theorem b_Mo_changesOne_81 {x1 : Int} {x2 : Int} {h : ftH} {R : Option ftV → ftH → Prop} 
    (w : ft_V k_Mo_changesOne 5 [some (.inr (.inr 309)), some (.inl x1), some (.inl (ft_add x2 1)), none] [] h R) : ft_V k_Mo_changesOne 81 [some (.inr (.inr 309)), some (.inl x1), some (.inl x2), none] [] h R := by
  refine fv_iinc (L' := [some (.inr (.inr 309)), some (.inl x1), some (.inl (ft_add x2 1)), none]) (ft_d o_Mo_changesOne 48 rfl) rfl rfl (Nat.le_of_ble_eq_true rfl) rfl ?_
  refine fv_goto (pc' := 5) (ft_d o_Mo_changesOne 49 rfl) rfl ?_
  exact w
set_option maxRecDepth 20000 in
theorem b_Mo_changesOne_162 {x2 : Int} {y1 : Int} {h : ftH} {R : Option ftV → ftH → Prop} 
    (w : (∀ h1 : ftH, h1 = ft_hs h 309 29 y1 → ((0 ≤ x2 → ((0 ≤ ft_add (ft_add 270 (ft_mul 3 x2)) 2 ∧ ft_add (ft_add 270 (ft_mul 3 x2)) 2 < 520) ∧ (∀ h2 : ftH, h2 = ft_hs h1 310 (ft_add (ft_add 270 (ft_mul 3 x2)) 2).toNat (h1 309 30) → (∀ h3 : ftH, h3 = ft_hs h2 310 6 (ft_add (h2 310 6) 1) → R (some (.inl 1)) h3)))) ∧ (¬ (0 ≤ x2) → (∃ R1 : Option ftV → ftH → Prop, ft_C k_Mo_putsHardware [.inr (.inr 309), .inl (h1 309 27), .inl (h1 309 28), .inl (h1 309 30)] h1 R1 ∧ ∀ h4 : ftH, R1 none h4 → R (some (.inl 1)) h4))))) : ft_V k_Mo_changesOne 162 [some (.inr (.inr 309)), none, some (.inl x2), none] [.inl y1, .inr (.inr 309)] h R := by
  refine fv_putI (ft_d o_Mo_changesOne 95 rfl) rfl fl_Mo_321 rfl rfl sh_309 rfl ?_
  generalize eh1 : ft_hs h 309 29 y1 = h1
  have w := w h1 eh1.symm
  refine fv_iload_n (ft_d o_Mo_changesOne 96 rfl) rfl rfl ?_
  refine fv_if_ge (tgt := 188) (ft_d o_Mo_changesOne 97 rfl) rfl rfl (fun c => ?_) (fun c => ?_)
  · have w := w.1 c
    refine fv_aload_n (ft_d o_Mo_changesOne 107 rfl) rfl rfl ?_
    refine fv_getR (b := 310) (ft_d o_Mo_changesOne 108 rfl) rfl fl_Mo_13 sh_309 rfl ly_309_1 ?_
    refine fv_sipush (ft_d o_Mo_changesOne 109 rfl) rfl rfl ?_
    refine fv_iconst (ft_d o_Mo_changesOne 110 rfl) rfl rfl ?_
    refine fv_iload_n (ft_d o_Mo_changesOne 111 rfl) rfl rfl ?_
    refine fv_imul (ft_d o_Mo_changesOne 112 rfl) rfl ?_
    refine fv_iadd (ft_d o_Mo_changesOne 113 rfl) rfl ?_
    refine fv_iconst (ft_d o_Mo_changesOne 114 rfl) rfl rfl ?_
    refine fv_iadd (ft_d o_Mo_changesOne 115 rfl) rfl ?_
    refine fv_aload_n (ft_d o_Mo_changesOne 116 rfl) rfl rfl ?_
    refine fv_getI (ft_d o_Mo_changesOne 117 rfl) rfl fl_Mo_318 sh_309 rfl ?_
    refine fv_iast (ft_d o_Mo_changesOne 118 rfl) rfl sh_310 w.1 ?_
    have w := w.2
    generalize eh2 : ft_hs h1 310 (ft_add (ft_add 270 (ft_mul 3 x2)) 2).toNat (h1 309 30) = h2
    have w := w h2 eh2.symm
    refine fv_aload_n (ft_d o_Mo_changesOne 119 rfl) rfl rfl ?_
    refine fv_getR (b := 310) (ft_d o_Mo_changesOne 120 rfl) rfl fl_Mo_13 sh_309 rfl ly_309_1 ?_
    refine fv_bipush (ft_d o_Mo_changesOne 121 rfl) rfl rfl ?_
    refine fv_dup2 (ft_d o_Mo_changesOne 122 rfl) rfl rfl rfl ?_
    refine fv_ialdj (j := 6) (ft_d o_Mo_changesOne 123 rfl) rfl sh_310 ⟨by decide, by decide⟩ rfl ?_
    refine fv_iconst (ft_d o_Mo_changesOne 124 rfl) rfl rfl ?_
    refine fv_iadd (ft_d o_Mo_changesOne 125 rfl) rfl ?_
    refine fv_iastj (j := 6) (ft_d o_Mo_changesOne 126 rfl) rfl sh_310 ⟨by decide, by decide⟩ rfl ?_
    generalize eh3 : ft_hs h2 310 6 (ft_add (h2 310 6) 1) = h3
    have w := w h3 eh3.symm
    refine fv_iconst (ft_d o_Mo_changesOne 127 rfl) rfl rfl ?_
    exact fv_zreturn (ft_d o_Mo_changesOne 128 rfl) rfl (Or.inr rfl) w
  · have w := w.2 c
    refine fv_aload_n (ft_d o_Mo_changesOne 98 rfl) rfl rfl ?_
    refine fv_aload_n (ft_d o_Mo_changesOne 99 rfl) rfl rfl ?_
    refine fv_getI (ft_d o_Mo_changesOne 100 rfl) rfl fl_Mo_312 sh_309 rfl ?_
    refine fv_aload_n (ft_d o_Mo_changesOne 101 rfl) rfl rfl ?_
    refine fv_getI (ft_d o_Mo_changesOne 102 rfl) rfl fl_Mo_315 sh_309 rfl ?_
    refine fv_aload_n (ft_d o_Mo_changesOne 103 rfl) rfl rfl ?_
    refine fv_getI (ft_d o_Mo_changesOne 104 rfl) rfl fl_Mo_318 sh_309 rfl ?_
    obtain ⟨R1, c2, w⟩ := w
    refine fv_callv (st := []) rfl rfl (ft_mm (pre := [.inl (h1 309 30), .inl (h1 309 28), .inl (h1 309 27), .inr (.inr 309)]) rfl) (ft_rnV (K' := k_Mo_putsHardware) (As := [.inl (h1 309 27), .inl (h1 309 28), .inl (h1 309 30)]) (ft_d o_Mo_changesOne 105 rfl) ml_Mo_183 li_Mo_putsHardware.1 li_Mo_putsHardware.2 lw_Mo_putsHardware ⟨rfl, rfl, Nat.le_of_ble_eq_true rfl, Nat.le_of_ble_eq_true rfl⟩ sh_309 rfl rfl rfl rfl (Nat.le_of_ble_eq_true rfl) c2) (fun h4 hw => ?_)
    have w := w h4 hw
    refine fv_goto (pc' := 217) (ft_d o_Mo_changesOne 106 rfl) rfl ?_
    refine fv_iconst (ft_d o_Mo_changesOne 127 rfl) rfl rfl ?_
    exact fv_zreturn (ft_d o_Mo_changesOne 128 rfl) rfl (Or.inr rfl) w
set_option maxRecDepth 20000 in
theorem b_Mo_removesOne_0  {h : ftH} {R : Option ftV → ftH → Prop} 
    (w : (∀ n1 : Int, n1 = (-2) → ft_V k_Mo_removesOne 5 [some (.inr (.inr 309)), some (.inl n1), some (.inl 0)] [] h R)) : ft_V k_Mo_removesOne 0 [some (.inr (.inr 309)), none, none] [] h R := by
  refine fv_bipush (ft_d o_Mo_removesOne 0 rfl) rfl rfl ?_
  generalize en1 : (-2) = n1
  have w := w n1 en1.symm
  refine fv_istore_n (L' := [some (.inr (.inr 309)), some (.inl n1), none]) (ft_d o_Mo_removesOne 1 rfl) rfl (Nat.le_of_ble_eq_true rfl) rfl ?_
  refine fv_iconst (ft_d o_Mo_removesOne 2 rfl) rfl rfl ?_
  refine fv_istore_n (L' := [some (.inr (.inr 309)), some (.inl n1), some (.inl 0)]) (ft_d o_Mo_removesOne 3 rfl) rfl (Nat.le_of_ble_eq_true rfl) rfl ?_
  exact w
set_option maxRecDepth 20000 in
theorem b_Mo_removesOne_5 {x1 : Int} {x2 : Int} {h : ftH} {R : Option ftV → ftH → Prop} 
    (w : ((h 310 2 ≤ x2 → ((0 ≤ x1 → ((0 ≤ x1 ∧ x1 < 80) ∧ (∀ h1 : ftH, h1 = ft_hs h 309 27 (h 310 (270 + 3 * x1.toNat)) → ((0 ≤ x1 ∧ x1 < 80) ∧ (∀ h2 : ftH, h2 = ft_hs h1 309 28 (h1 310 (271 + 3 * x1.toNat)) → ((0 ≤ x1 ∧ x1 < 80) ∧ (∀ h3 : ftH, h3 = ft_hs h2 309 30 (h2 310 (272 + 3 * x1.toNat)) → (∀ h4 : ftH, h4 = ft_hs h3 309 29 2 → (∃ R7 : Option ftV → ftH → Prop, ft_C k_Mo_takesHardware [.inr (.inr 309), .inl x1] h4 R7 ∧ ∀ h5 : ftH, R7 none h5 → R (some (.inl 1)) h5))))))))) ∧ (¬ (0 ≤ x1) → R (some (.inl 0)) h))) ∧ (¬ (h 310 2 ≤ x2) → ((0 ≤ x2 ∧ x2 < 80) ∧ ((0 ≤ x2 ∧ x2 < 80) ∧ (∃ R13 : Option ftV → ftH → Prop, ft_C k_Mo_targetAt [.inr (.inr 309), .inl (h 310 (270 + 3 * x2.toNat)), .inl (h 310 (271 + 3 * x2.toNat))] h R13 ∧ ∀ (z15 : Int) (h6 : ftH), ft_in z15 → R13 (some (.inl z15)) h6 → ((0 ≤ z15 → ft_V k_Mo_removesOne 5 [some (.inr (.inr 309)), some (.inl x1), some (.inl (ft_add x2 1))] [] h6 R) ∧ (¬ (0 ≤ z15) → ((x1 < 0 → ft_V k_Mo_removesOne 5 [some (.inr (.inr 309)), some (.inl x2), some (.inl (ft_add x2 1))] [] h6 R) ∧ (¬ (x1 < 0) → ((0 ≤ x2 ∧ x2 < 80) ∧ ((0 ≤ x1 ∧ x1 < 80) ∧ ((h6 310 (271 + 3 * x1.toNat) ≤ h6 310 (271 + 3 * x2.toNat) → ft_V k_Mo_removesOne 5 [some (.inr (.inr 309)), some (.inl x1), some (.inl (ft_add x2 1))] [] h6 R) ∧ (¬ (h6 310 (271 + 3 * x1.toNat) ≤ h6 310 (271 + 3 * x2.toNat)) → ft_V k_Mo_removesOne 5 [some (.inr (.inr 309)), some (.inl x2), some (.inl (ft_add x2 1))] [] h6 R)))))))))))))) : ft_V k_Mo_removesOne 5 [some (.inr (.inr 309)), some (.inl x1), some (.inl x2)] [] h R := by
  refine fv_iload_n (ft_d o_Mo_removesOne 4 rfl) rfl rfl ?_
  refine fv_aload_n (ft_d o_Mo_removesOne 5 rfl) rfl rfl ?_
  refine fv_getR (b := 310) (ft_d o_Mo_removesOne 6 rfl) rfl fl_Mo_13 sh_309 rfl ly_309_1 ?_
  refine fv_iconst (ft_d o_Mo_removesOne 7 rfl) rfl rfl ?_
  refine fv_ialdj (j := 2) (ft_d o_Mo_removesOne 8 rfl) rfl sh_310 ⟨by decide, by decide⟩ rfl ?_
  refine fv_icmp_ge (tgt := 57) (ft_d o_Mo_removesOne 9 rfl) rfl rfl (fun c => ?_) (fun c => ?_)
  · have w := w.1 c
    refine fv_iload_n (ft_d o_Mo_removesOne 32 rfl) rfl rfl ?_
    refine fv_if_ge (tgt := 63) (ft_d o_Mo_removesOne 33 rfl) rfl rfl (fun c => ?_) (fun c => ?_)
    · have w := w.1 c
      refine fv_aload_n (ft_d o_Mo_removesOne 36 rfl) rfl rfl ?_
      refine fv_aload_n (ft_d o_Mo_removesOne 37 rfl) rfl rfl ?_
      refine fv_iload_n (ft_d o_Mo_removesOne 38 rfl) rfl rfl ?_
      refine fv_callif (st := [.inr (.inr 309)]) (z := h 310 (270 + 3 * x1.toNat)) (Or.inl rfl) rfl (ft_mm (pre := [.inl x1, .inr (.inr 309)]) rfl) (ft_rnV (K' := k_Mo_valueIn) (As := [.inl x1]) (ft_d o_Mo_removesOne 39 rfl) ml_Mo_176 li_Mo_valueIn.1 li_Mo_valueIn.2 lw_Mo_valueIn ⟨rfl, rfl, Nat.le_of_ble_eq_true rfl, Nat.le_of_ble_eq_true rfl⟩ sh_309 rfl rfl rfl rfl (Nat.le_of_ble_eq_true rfl) (c_Mo_valueIn w.1)) ?_
      have w := w.2
      refine fv_putI (ft_d o_Mo_removesOne 40 rfl) rfl fl_Mo_312 rfl rfl sh_309 rfl ?_
      generalize eh1 : ft_hs h 309 27 (h 310 (270 + 3 * x1.toNat)) = h1
      have w := w h1 eh1.symm
      refine fv_aload_n (ft_d o_Mo_removesOne 41 rfl) rfl rfl ?_
      refine fv_aload_n (ft_d o_Mo_removesOne 42 rfl) rfl rfl ?_
      refine fv_iload_n (ft_d o_Mo_removesOne 43 rfl) rfl rfl ?_
      refine fv_callif (st := [.inr (.inr 309)]) (z := h1 310 (271 + 3 * x1.toNat)) (Or.inl rfl) rfl (ft_mm (pre := [.inl x1, .inr (.inr 309)]) rfl) (ft_rnV (K' := k_Mo_lengthIn) (As := [.inl x1]) (ft_d o_Mo_removesOne 44 rfl) ml_Mo_173 li_Mo_lengthIn.1 li_Mo_lengthIn.2 lw_Mo_lengthIn ⟨rfl, rfl, Nat.le_of_ble_eq_true rfl, Nat.le_of_ble_eq_true rfl⟩ sh_309 rfl rfl rfl rfl (Nat.le_of_ble_eq_true rfl) (c_Mo_lengthIn w.1)) ?_
      have w := w.2
      refine fv_putI (ft_d o_Mo_removesOne 45 rfl) rfl fl_Mo_315 rfl rfl sh_309 rfl ?_
      generalize eh2 : ft_hs h1 309 28 (h1 310 (271 + 3 * x1.toNat)) = h2
      have w := w h2 eh2.symm
      refine fv_aload_n (ft_d o_Mo_removesOne 46 rfl) rfl rfl ?_
      refine fv_aload_n (ft_d o_Mo_removesOne 47 rfl) rfl rfl ?_
      refine fv_iload_n (ft_d o_Mo_removesOne 48 rfl) rfl rfl ?_
      refine fv_callif (st := [.inr (.inr 309)]) (z := h2 310 (272 + 3 * x1.toNat)) (Or.inl rfl) rfl (ft_mm (pre := [.inl x1, .inr (.inr 309)]) rfl) (ft_rnV (K' := k_Mo_actionIn) (As := [.inl x1]) (ft_d o_Mo_removesOne 49 rfl) ml_Mo_157 li_Mo_actionIn.1 li_Mo_actionIn.2 lw_Mo_actionIn ⟨rfl, rfl, Nat.le_of_ble_eq_true rfl, Nat.le_of_ble_eq_true rfl⟩ sh_309 rfl rfl rfl rfl (Nat.le_of_ble_eq_true rfl) (c_Mo_actionIn w.1)) ?_
      have w := w.2
      refine fv_putI (ft_d o_Mo_removesOne 50 rfl) rfl fl_Mo_318 rfl rfl sh_309 rfl ?_
      generalize eh3 : ft_hs h2 309 30 (h2 310 (272 + 3 * x1.toNat)) = h3
      have w := w h3 eh3.symm
      refine fv_aload_n (ft_d o_Mo_removesOne 51 rfl) rfl rfl ?_
      refine fv_iconst (ft_d o_Mo_removesOne 52 rfl) rfl rfl ?_
      refine fv_putI (ft_d o_Mo_removesOne 53 rfl) rfl fl_Mo_321 rfl rfl sh_309 rfl ?_
      generalize eh4 : ft_hs h3 309 29 2 = h4
      have w := w h4 eh4.symm
      refine fv_aload_n (ft_d o_Mo_removesOne 54 rfl) rfl rfl ?_
      refine fv_iload_n (ft_d o_Mo_removesOne 55 rfl) rfl rfl ?_
      obtain ⟨R7, c8, w⟩ := w
      refine fv_callv (st := []) rfl rfl (ft_mm (pre := [.inl x1, .inr (.inr 309)]) rfl) (ft_rnV (K' := k_Mo_takesHardware) (As := [.inl x1]) (ft_d o_Mo_removesOne 56 rfl) ml_Mo_179 li_Mo_takesHardware.1 li_Mo_takesHardware.2 lw_Mo_takesHardware ⟨rfl, rfl, Nat.le_of_ble_eq_true rfl, Nat.le_of_ble_eq_true rfl⟩ sh_309 rfl rfl rfl rfl (Nat.le_of_ble_eq_true rfl) c8) (fun h5 hw => ?_)
      have w := w h5 hw
      refine fv_iconst (ft_d o_Mo_removesOne 57 rfl) rfl rfl ?_
      exact fv_zreturn (ft_d o_Mo_removesOne 58 rfl) rfl (Or.inr rfl) w
    · have w := w.2 c
      refine fv_iconst (ft_d o_Mo_removesOne 34 rfl) rfl rfl ?_
      exact fv_zreturn (ft_d o_Mo_removesOne 35 rfl) rfl (Or.inl rfl) w
  · have w := w.2 c
    refine fv_aload_n (ft_d o_Mo_removesOne 10 rfl) rfl rfl ?_
    refine fv_aload_n (ft_d o_Mo_removesOne 11 rfl) rfl rfl ?_
    refine fv_iload_n (ft_d o_Mo_removesOne 12 rfl) rfl rfl ?_
    refine fv_callif (st := [.inr (.inr 309)]) (z := h 310 (270 + 3 * x2.toNat)) (Or.inl rfl) rfl (ft_mm (pre := [.inl x2, .inr (.inr 309)]) rfl) (ft_rnV (K' := k_Mo_valueIn) (As := [.inl x2]) (ft_d o_Mo_removesOne 13 rfl) ml_Mo_176 li_Mo_valueIn.1 li_Mo_valueIn.2 lw_Mo_valueIn ⟨rfl, rfl, Nat.le_of_ble_eq_true rfl, Nat.le_of_ble_eq_true rfl⟩ sh_309 rfl rfl rfl rfl (Nat.le_of_ble_eq_true rfl) (c_Mo_valueIn w.1)) ?_
    have w := w.2
    refine fv_aload_n (ft_d o_Mo_removesOne 14 rfl) rfl rfl ?_
    refine fv_iload_n (ft_d o_Mo_removesOne 15 rfl) rfl rfl ?_
    refine fv_callif (st := [.inl (h 310 (270 + 3 * x2.toNat)), .inr (.inr 309)]) (z := h 310 (271 + 3 * x2.toNat)) (Or.inl rfl) rfl (ft_mm (pre := [.inl x2, .inr (.inr 309)]) rfl) (ft_rnV (K' := k_Mo_lengthIn) (As := [.inl x2]) (ft_d o_Mo_removesOne 16 rfl) ml_Mo_173 li_Mo_lengthIn.1 li_Mo_lengthIn.2 lw_Mo_lengthIn ⟨rfl, rfl, Nat.le_of_ble_eq_true rfl, Nat.le_of_ble_eq_true rfl⟩ sh_309 rfl rfl rfl rfl (Nat.le_of_ble_eq_true rfl) (c_Mo_lengthIn w.1)) ?_
    have w := w.2
    obtain ⟨R13, c14, w⟩ := w
    refine fv_calli (st := []) (Or.inl rfl) rfl (ft_mm (pre := [.inl (h 310 (271 + 3 * x2.toNat)), .inl (h 310 (270 + 3 * x2.toNat)), .inr (.inr 309)]) rfl) (ft_rnV (K' := k_Mo_targetAt) (As := [.inl (h 310 (270 + 3 * x2.toNat)), .inl (h 310 (271 + 3 * x2.toNat))]) (ft_d o_Mo_removesOne 17 rfl) ml_Mo_324 li_Mo_targetAt.1 li_Mo_targetAt.2 lw_Mo_targetAt ⟨rfl, rfl, Nat.le_of_ble_eq_true rfl, Nat.le_of_ble_eq_true rfl⟩ sh_309 rfl rfl rfl rfl (Nat.le_of_ble_eq_true rfl) c14) (fun z15 h6 hz hw => ?_)
    have w := w z15 h6 hz hw
    refine fv_if_ge (tgt := 51) (ft_d o_Mo_removesOne 18 rfl) rfl rfl (fun c => ?_) (fun c => ?_)
    · have w := w.1 c
      refine fv_iinc (L' := [some (.inr (.inr 309)), some (.inl x1), some (.inl (ft_add x2 1))]) (ft_d o_Mo_removesOne 30 rfl) rfl rfl (Nat.le_of_ble_eq_true rfl) rfl ?_
      refine fv_goto (pc' := 5) (ft_d o_Mo_removesOne 31 rfl) rfl ?_
      exact w
    · have w := w.2 c
      refine fv_iload_n (ft_d o_Mo_removesOne 19 rfl) rfl rfl ?_
      refine fv_if_lt (tgt := 49) (ft_d o_Mo_removesOne 20 rfl) rfl rfl (fun c => ?_) (fun c => ?_)
      · have w := w.1 c
        refine fv_iload_n (ft_d o_Mo_removesOne 28 rfl) rfl rfl ?_
        refine fv_istore_n (L' := [some (.inr (.inr 309)), some (.inl x2), some (.inl x2)]) (ft_d o_Mo_removesOne 29 rfl) rfl (Nat.le_of_ble_eq_true rfl) rfl ?_
        refine fv_iinc (L' := [some (.inr (.inr 309)), some (.inl x2), some (.inl (ft_add x2 1))]) (ft_d o_Mo_removesOne 30 rfl) rfl rfl (Nat.le_of_ble_eq_true rfl) rfl ?_
        refine fv_goto (pc' := 5) (ft_d o_Mo_removesOne 31 rfl) rfl ?_
        exact w
      · have w := w.2 c
        refine fv_aload_n (ft_d o_Mo_removesOne 21 rfl) rfl rfl ?_
        refine fv_iload_n (ft_d o_Mo_removesOne 22 rfl) rfl rfl ?_
        refine fv_callif (st := []) (z := h6 310 (271 + 3 * x2.toNat)) (Or.inl rfl) rfl (ft_mm (pre := [.inl x2, .inr (.inr 309)]) rfl) (ft_rnV (K' := k_Mo_lengthIn) (As := [.inl x2]) (ft_d o_Mo_removesOne 23 rfl) ml_Mo_173 li_Mo_lengthIn.1 li_Mo_lengthIn.2 lw_Mo_lengthIn ⟨rfl, rfl, Nat.le_of_ble_eq_true rfl, Nat.le_of_ble_eq_true rfl⟩ sh_309 rfl rfl rfl rfl (Nat.le_of_ble_eq_true rfl) (c_Mo_lengthIn w.1)) ?_
        have w := w.2
        refine fv_aload_n (ft_d o_Mo_removesOne 24 rfl) rfl rfl ?_
        refine fv_iload_n (ft_d o_Mo_removesOne 25 rfl) rfl rfl ?_
        refine fv_callif (st := [.inl (h6 310 (271 + 3 * x2.toNat))]) (z := h6 310 (271 + 3 * x1.toNat)) (Or.inl rfl) rfl (ft_mm (pre := [.inl x1, .inr (.inr 309)]) rfl) (ft_rnV (K' := k_Mo_lengthIn) (As := [.inl x1]) (ft_d o_Mo_removesOne 26 rfl) ml_Mo_173 li_Mo_lengthIn.1 li_Mo_lengthIn.2 lw_Mo_lengthIn ⟨rfl, rfl, Nat.le_of_ble_eq_true rfl, Nat.le_of_ble_eq_true rfl⟩ sh_309 rfl rfl rfl rfl (Nat.le_of_ble_eq_true rfl) (c_Mo_lengthIn w.1)) ?_
        have w := w.2
        refine fv_icmp_ge (tgt := 51) (ft_d o_Mo_removesOne 27 rfl) rfl rfl (fun c => ?_) (fun c => ?_)
        · have w := w.1 c
          refine fv_iinc (L' := [some (.inr (.inr 309)), some (.inl x1), some (.inl (ft_add x2 1))]) (ft_d o_Mo_removesOne 30 rfl) rfl rfl (Nat.le_of_ble_eq_true rfl) rfl ?_
          refine fv_goto (pc' := 5) (ft_d o_Mo_removesOne 31 rfl) rfl ?_
          exact w
        · have w := w.2 c
          refine fv_iload_n (ft_d o_Mo_removesOne 28 rfl) rfl rfl ?_
          refine fv_istore_n (L' := [some (.inr (.inr 309)), some (.inl x2), some (.inl x2)]) (ft_d o_Mo_removesOne 29 rfl) rfl (Nat.le_of_ble_eq_true rfl) rfl ?_
          refine fv_iinc (L' := [some (.inr (.inr 309)), some (.inl x2), some (.inl (ft_add x2 1))]) (ft_d o_Mo_removesOne 30 rfl) rfl rfl (Nat.le_of_ble_eq_true rfl) rfl ?_
          refine fv_goto (pc' := 5) (ft_d o_Mo_removesOne 31 rfl) rfl ?_
          exact w
set_option maxRecDepth 20000 in
theorem b_Mo_syncs_0 {x1 : Int} {h : ftH} {R : Option ftV → ftH → Prop} 
    (w : (∃ R1 : Option ftV → ftH → Prop, ft_C k_Mo_preparesSync [.inr (.inr 309)] h R1 ∧ ∀ h1 : ftH, R1 none h1 → ft_V k_Mo_syncs 6 [some (.inr (.inr 309)), some (.inl x1), some (.inl 0)] [] h1 R)) : ft_V k_Mo_syncs 0 [some (.inr (.inr 309)), some (.inl x1), none] [] h R := by
  refine fv_aload_n (ft_d o_Mo_syncs 0 rfl) rfl rfl ?_
  obtain ⟨R1, c2, w⟩ := w
  refine fv_callv (st := []) rfl rfl (ft_mm (pre := [.inr (.inr 309)]) rfl) (ft_rnV (K' := k_Mo_preparesSync) (As := []) (ft_d o_Mo_syncs 1 rfl) ml_Mo_327 li_Mo_preparesSync.1 li_Mo_preparesSync.2 lw_Mo_preparesSync ⟨rfl, rfl, Nat.le_of_ble_eq_true rfl, Nat.le_of_ble_eq_true rfl⟩ sh_309 rfl rfl rfl rfl (Nat.le_of_ble_eq_true rfl) c2) (fun h1 hw => ?_)
  have w := w h1 hw
  refine fv_iconst (ft_d o_Mo_syncs 2 rfl) rfl rfl ?_
  refine fv_istore_n (L' := [some (.inr (.inr 309)), some (.inl x1), some (.inl 0)]) (ft_d o_Mo_syncs 3 rfl) rfl (Nat.le_of_ble_eq_true rfl) rfl ?_
  exact w
set_option maxRecDepth 20000 in
theorem b_Mo_syncs_6 {x1 : Int} {x2 : Int} {h : ftH} {R : Option ftV → ftH → Prop} 
    (w : ((x1 ≤ x2 → R (some (.inl x2)) h) ∧ (¬ (x1 ≤ x2) → (∃ R1 : Option ftV → ftH → Prop, ft_C k_Mo_changesOne [.inr (.inr 309)] h R1 ∧ ∀ (z3 : Int) (h1 : ftH), ft_in z3 → R1 (some (.inl z3)) h1 → ((z3 = 0 → R (some (.inl x2)) h1) ∧ (¬ (z3 = 0) → ft_V k_Mo_syncs 6 [some (.inr (.inr 309)), some (.inl x1), some (.inl (ft_add x2 1))] [] h1 R)))))) : ft_V k_Mo_syncs 6 [some (.inr (.inr 309)), some (.inl x1), some (.inl x2)] [] h R := by
  refine fv_iload_n (ft_d o_Mo_syncs 4 rfl) rfl rfl ?_
  refine fv_iload_n (ft_d o_Mo_syncs 5 rfl) rfl rfl ?_
  refine fv_icmp_ge (tgt := 24) (ft_d o_Mo_syncs 6 rfl) rfl rfl (fun c => ?_) (fun c => ?_)
  · have w := w.1 c
    refine fv_iload_n (ft_d o_Mo_syncs 12 rfl) rfl rfl ?_
    exact fv_ireturn (ft_d o_Mo_syncs 13 rfl) rfl w
  · have w := w.2 c
    refine fv_aload_n (ft_d o_Mo_syncs 7 rfl) rfl rfl ?_
    obtain ⟨R1, c2, w⟩ := w
    refine fv_calli (st := []) (Or.inr rfl) rfl (ft_mm (pre := [.inr (.inr 309)]) rfl) (ft_rnV (K' := k_Mo_changesOne) (As := []) (ft_d o_Mo_syncs 8 rfl) ml_Mo_330 li_Mo_changesOne.1 li_Mo_changesOne.2 lw_Mo_changesOne ⟨rfl, rfl, Nat.le_of_ble_eq_true rfl, Nat.le_of_ble_eq_true rfl⟩ sh_309 rfl rfl rfl rfl (Nat.le_of_ble_eq_true rfl) c2) (fun z3 h1 hz hw => ?_)
    have w := w z3 h1 hz hw
    refine fv_if_eq (tgt := 24) (ft_d o_Mo_syncs 9 rfl) rfl rfl (fun c => ?_) (fun c => ?_)
    · have w := w.1 c
      refine fv_iload_n (ft_d o_Mo_syncs 12 rfl) rfl rfl ?_
      exact fv_ireturn (ft_d o_Mo_syncs 13 rfl) rfl w
    · have w := w.2 c
      refine fv_iinc (L' := [some (.inr (.inr 309)), some (.inl x1), some (.inl (ft_add x2 1))]) (ft_d o_Mo_syncs 10 rfl) rfl rfl (Nat.le_of_ble_eq_true rfl) rfl ?_
      refine fv_goto (pc' := 6) (ft_d o_Mo_syncs 11 rfl) rfl ?_
      exact w
set_option maxRecDepth 20000 in
theorem b_Mo_laysAside_0  {h : ftH} {R : Option ftV → ftH → Prop} 
    (w : ft_V k_Mo_laysAside 2 [some (.inr (.inr 309)), some (.inl 0)] [] h R) : ft_V k_Mo_laysAside 0 [some (.inr (.inr 309)), none] [] h R := by
  refine fv_iconst (ft_d o_Mo_laysAside 0 rfl) rfl rfl ?_
  refine fv_istore_n (L' := [some (.inr (.inr 309)), some (.inl 0)]) (ft_d o_Mo_laysAside 1 rfl) rfl (Nat.le_of_ble_eq_true rfl) rfl ?_
  exact w
set_option maxRecDepth 20000 in
theorem b_Mo_laysAside_2 {x1 : Int} {h : ftH} {R : Option ftV → ftH → Prop} 
    (w : ((520 ≤ x1 → R none h) ∧ (¬ (520 ≤ x1) → ((0 ≤ x1 ∧ x1 < 520) ∧ ((0 ≤ x1 ∧ x1 < 520) ∧ (∀ h1 : ftH, h1 = ft_hs h 312 x1.toNat (h 310 x1.toNat) → ft_V k_Mo_laysAside 2 [some (.inr (.inr 309)), some (.inl (ft_add x1 1))] [] h1 R)))))) : ft_V k_Mo_laysAside 2 [some (.inr (.inr 309)), some (.inl x1)] [] h R := by
  refine fv_iload_n (ft_d o_Mo_laysAside 2 rfl) rfl rfl ?_
  refine fv_sipush (ft_d o_Mo_laysAside 3 rfl) rfl rfl ?_
  refine fv_icmp_ge (tgt := 27) (ft_d o_Mo_laysAside 4 rfl) rfl rfl (fun c => ?_) (fun c => ?_)
  · have w := w.1 c
    exact fv_return (ft_d o_Mo_laysAside 15 rfl) rfl w
  · have w := w.2 c
    refine fv_aload_n (ft_d o_Mo_laysAside 5 rfl) rfl rfl ?_
    refine fv_getR (b := 312) (ft_d o_Mo_laysAside 6 rfl) rfl fl_Mo_20 sh_309 rfl ly_309_3 ?_
    refine fv_iload_n (ft_d o_Mo_laysAside 7 rfl) rfl rfl ?_
    refine fv_aload_n (ft_d o_Mo_laysAside 8 rfl) rfl rfl ?_
    refine fv_getR (b := 310) (ft_d o_Mo_laysAside 9 rfl) rfl fl_Mo_13 sh_309 rfl ly_309_1 ?_
    refine fv_iload_n (ft_d o_Mo_laysAside 10 rfl) rfl rfl ?_
    refine fv_iald (ft_d o_Mo_laysAside 11 rfl) rfl sh_310 w.1 ?_
    have w := w.2
    refine fv_iast (ft_d o_Mo_laysAside 12 rfl) rfl sh_312 w.1 ?_
    have w := w.2
    generalize eh1 : ft_hs h 312 x1.toNat (h 310 x1.toNat) = h1
    have w := w h1 eh1.symm
    refine fv_iinc (L' := [some (.inr (.inr 309)), some (.inl (ft_add x1 1))]) (ft_d o_Mo_laysAside 13 rfl) rfl rfl (Nat.le_of_ble_eq_true rfl) rfl ?_
    refine fv_goto (pc' := 2) (ft_d o_Mo_laysAside 14 rfl) rfl ?_
    exact w
set_option maxRecDepth 20000 in
theorem b_Mo_comesBack_0  {h : ftH} {R : Option ftV → ftH → Prop} 
    (w : ft_V k_Mo_comesBack 2 [some (.inr (.inr 309)), some (.inl 0)] [] h R) : ft_V k_Mo_comesBack 0 [some (.inr (.inr 309)), none] [] h R := by
  refine fv_iconst (ft_d o_Mo_comesBack 0 rfl) rfl rfl ?_
  refine fv_istore_n (L' := [some (.inr (.inr 309)), some (.inl 0)]) (ft_d o_Mo_comesBack 1 rfl) rfl (Nat.le_of_ble_eq_true rfl) rfl ?_
  exact w
set_option maxRecDepth 20000 in
theorem b_Mo_comesBack_2 {x1 : Int} {h : ftH} {R : Option ftV → ftH → Prop} 
    (w : ((520 ≤ x1 → R none h) ∧ (¬ (520 ≤ x1) → ((0 ≤ x1 ∧ x1 < 520) ∧ ((0 ≤ x1 ∧ x1 < 520) ∧ (∀ h1 : ftH, h1 = ft_hs h 310 x1.toNat (h 312 x1.toNat) → ft_V k_Mo_comesBack 2 [some (.inr (.inr 309)), some (.inl (ft_add x1 1))] [] h1 R)))))) : ft_V k_Mo_comesBack 2 [some (.inr (.inr 309)), some (.inl x1)] [] h R := by
  refine fv_iload_n (ft_d o_Mo_comesBack 2 rfl) rfl rfl ?_
  refine fv_sipush (ft_d o_Mo_comesBack 3 rfl) rfl rfl ?_
  refine fv_icmp_ge (tgt := 27) (ft_d o_Mo_comesBack 4 rfl) rfl rfl (fun c => ?_) (fun c => ?_)
  · have w := w.1 c
    exact fv_return (ft_d o_Mo_comesBack 15 rfl) rfl w
  · have w := w.2 c
    refine fv_aload_n (ft_d o_Mo_comesBack 5 rfl) rfl rfl ?_
    refine fv_getR (b := 310) (ft_d o_Mo_comesBack 6 rfl) rfl fl_Mo_13 sh_309 rfl ly_309_1 ?_
    refine fv_iload_n (ft_d o_Mo_comesBack 7 rfl) rfl rfl ?_
    refine fv_aload_n (ft_d o_Mo_comesBack 8 rfl) rfl rfl ?_
    refine fv_getR (b := 312) (ft_d o_Mo_comesBack 9 rfl) rfl fl_Mo_20 sh_309 rfl ly_309_3 ?_
    refine fv_iload_n (ft_d o_Mo_comesBack 10 rfl) rfl rfl ?_
    refine fv_iald (ft_d o_Mo_comesBack 11 rfl) rfl sh_312 w.1 ?_
    have w := w.2
    refine fv_iast (ft_d o_Mo_comesBack 12 rfl) rfl sh_310 w.1 ?_
    have w := w.2
    generalize eh1 : ft_hs h 310 x1.toNat (h 312 x1.toNat) = h1
    have w := w h1 eh1.symm
    refine fv_iinc (L' := [some (.inr (.inr 309)), some (.inl (ft_add x1 1))]) (ft_d o_Mo_comesBack 13 rfl) rfl rfl (Nat.le_of_ble_eq_true rfl) rfl ?_
    refine fv_goto (pc' := 2) (ft_d o_Mo_comesBack 14 rfl) rfl ?_
    exact w
set_option maxRecDepth 20000 in
theorem b_Mo_changes_0  {h : ftH} {R : Option ftV → ftH → Prop} 
    (w : (∃ R1 : Option ftV → ftH → Prop, ft_C k_Mo_laysAside [.inr (.inr 309)] h R1 ∧ ∀ h1 : ftH, R1 none h1 → (∃ R3 : Option ftV → ftH → Prop, ft_C k_Mo_syncs [.inr (.inr 309), .inl 1000] h1 R3 ∧ ∀ (z5 : Int) (h2 : ftH), ft_in z5 → R3 (some (.inl z5)) h2 → (∃ R6 : Option ftV → ftH → Prop, ft_C k_Mo_comesBack [.inr (.inr 309)] h2 R6 ∧ ∀ h3 : ftH, R6 none h3 → R (some (.inl z5)) h3)))) : ft_V k_Mo_changes 0 [some (.inr (.inr 309)), none] [] h R := by
  refine fv_aload_n (ft_d o_Mo_changes 0 rfl) rfl rfl ?_
  obtain ⟨R1, c2, w⟩ := w
  refine fv_callv (st := []) rfl rfl (ft_mm (pre := [.inr (.inr 309)]) rfl) (ft_rnV (K' := k_Mo_laysAside) (As := []) (ft_d o_Mo_changes 1 rfl) ml_Mo_333 li_Mo_laysAside.1 li_Mo_laysAside.2 lw_Mo_laysAside ⟨rfl, rfl, Nat.le_of_ble_eq_true rfl, Nat.le_of_ble_eq_true rfl⟩ sh_309 rfl rfl rfl rfl (Nat.le_of_ble_eq_true rfl) c2) (fun h1 hw => ?_)
  have w := w h1 hw
  refine fv_aload_n (ft_d o_Mo_changes 2 rfl) rfl rfl ?_
  refine fv_sipush (ft_d o_Mo_changes 3 rfl) rfl rfl ?_
  obtain ⟨R3, c4, w⟩ := w
  refine fv_calli (st := []) (Or.inl rfl) rfl (ft_mm (pre := [.inl 1000, .inr (.inr 309)]) rfl) (ft_rnV (K' := k_Mo_syncs) (As := [.inl 1000]) (ft_d o_Mo_changes 4 rfl) ml_Mo_336 li_Mo_syncs.1 li_Mo_syncs.2 lw_Mo_syncs ⟨rfl, rfl, Nat.le_of_ble_eq_true rfl, Nat.le_of_ble_eq_true rfl⟩ sh_309 rfl rfl rfl rfl (Nat.le_of_ble_eq_true rfl) c4) (fun z5 h2 hz hw => ?_)
  have w := w z5 h2 hz hw
  refine fv_istore_n (L' := [some (.inr (.inr 309)), some (.inl z5)]) (ft_d o_Mo_changes 5 rfl) rfl (Nat.le_of_ble_eq_true rfl) rfl ?_
  refine fv_aload_n (ft_d o_Mo_changes 6 rfl) rfl rfl ?_
  obtain ⟨R6, c7, w⟩ := w
  refine fv_callv (st := []) rfl rfl (ft_mm (pre := [.inr (.inr 309)]) rfl) (ft_rnV (K' := k_Mo_comesBack) (As := []) (ft_d o_Mo_changes 7 rfl) ml_Mo_339 li_Mo_comesBack.1 li_Mo_comesBack.2 lw_Mo_comesBack ⟨rfl, rfl, Nat.le_of_ble_eq_true rfl, Nat.le_of_ble_eq_true rfl⟩ sh_309 rfl rfl rfl rfl (Nat.le_of_ble_eq_true rfl) c7) (fun h3 hw => ?_)
  have w := w h3 hw
  refine fv_iload_n (ft_d o_Mo_changes 8 rfl) rfl rfl ?_
  exact fv_ireturn (ft_d o_Mo_changes 9 rfl) rfl w
set_option maxRecDepth 20000 in
theorem b_Mo_change_0 {x1 : Int} {x2 : Int} {h : ftH} {R : Option ftV → ftH → Prop} 
    (w : ((x1 < 0 → R (some (.inr (.inl ((-1))))) h) ∧ (¬ (x1 < 0) → (((0 : Int) ≤ x2 ∧ x2 ≤ (3 : Int) → (∃ R3 : Option ftV → ftH → Prop, ft_C k_Mo_laysAside [.inr (.inr 309)] h R3 ∧ ∀ h1 : ftH, R3 none h1 → ((1000 ≤ x1 → (∃ R5 : Option ftV → ftH → Prop, ft_C k_Mo_syncs [.inr (.inr 309), .inl 1000] h1 R5 ∧ ∀ (z7 : Int) (h2 : ftH), ft_in z7 → R5 (some (.inl z7)) h2 → (∃ R8 : Option ftV → ftH → Prop, ft_C k_Mo_comesBack [.inr (.inr 309)] h2 R8 ∧ ∀ h3 : ftH, R8 none h3 → ((x1 < z7 → ((¬ (x2 = 0) → ((¬ (x2 = 1) → ((¬ (x2 = 2) → R (some (.inr (.inl (h3 309 30)))) h3) ∧ (x2 = 2 → R (some (.inr (.inl (h3 309 29)))) h3))) ∧ (x2 = 1 → R (some (.inr (.inl (h3 309 28)))) h3))) ∧ (x2 = 0 → R (some (.inr (.inl (pUn (h3 309 27))))) h3))) ∧ (¬ (x1 < z7) → R (some (.inr (.inl ((-2))))) h3))))) ∧ (¬ (1000 ≤ x1) → (∃ R12 : Option ftV → ftH → Prop, ft_C k_Mo_syncs [.inr (.inr 309), .inl (ft_add x1 1)] h1 R12 ∧ ∀ (z14 : Int) (h4 : ftH), ft_in z14 → R12 (some (.inl z14)) h4 → (∃ R15 : Option ftV → ftH → Prop, ft_C k_Mo_comesBack [.inr (.inr 309)] h4 R15 ∧ ∀ h5 : ftH, R15 none h5 → ((x1 < z14 → ((¬ (x2 = 0) → ((¬ (x2 = 1) → ((¬ (x2 = 2) → R (some (.inr (.inl (h5 309 30)))) h5) ∧ (x2 = 2 → R (some (.inr (.inl (h5 309 29)))) h5))) ∧ (x2 = 1 → R (some (.inr (.inl (h5 309 28)))) h5))) ∧ (x2 = 0 → R (some (.inr (.inl (pUn (h5 309 27))))) h5))) ∧ (¬ (x1 < z14) → R (some (.inr (.inl ((-2))))) h5)))))))) ∧ (¬ ((0 : Int) ≤ x2 ∧ x2 ≤ (3 : Int)) → R (some (.inr (.inl ((-1))))) h))))) : ft_V k_Mo_change 0 [some (.inr (.inr 309)), some (.inl x1), some (.inl x2), none] [] h R := by
  refine fv_iload_n (ft_d o_Mo_change 0 rfl) rfl rfl ?_
  refine fv_if_lt (tgt := 16) (ft_d o_Mo_change 1 rfl) rfl rfl (fun c => ?_) (fun c => ?_)
  · have w := w.1 c
    refine fv_ldc2 (v := (-1)) (z := (-1)) (ft_d o_Mo_change 8 rfl) rfl (ft_gt 1202 (by decide +kernel) rfl) rfl ?_
    exact fv_lreturn (ft_d o_Mo_change 9 rfl) rfl w
  · have w := w.2 c
    refine fv_iload_n (ft_d o_Mo_change 2 rfl) rfl rfl ?_
    refine fv_i2l (ft_d o_Mo_change 3 rfl) rfl ?_
    refine fv_lconst (z := 0) (ft_d o_Mo_change 4 rfl) rfl rfl ?_
    refine fv_ldc2 (v := 3) (z := 3) (ft_d o_Mo_change 5 rfl) rfl (ft_gt 1546 (by decide +kernel) rfl) rfl ?_
    refine fv_callif (st := []) (z := (if (0 : Int) ≤ x2 ∧ x2 ≤ (3 : Int) then 1 else 0)) (Or.inr rfl) rfl (ft_mm (pre := [.inr (.inl 3), .inr (.inl 0), .inr (.inl x2)]) rfl) (ft_rnS (K' := k_Mo_in) (As := [.inr (.inl x2), .inr (.inl 0), .inr (.inl 3)]) (ft_d o_Mo_change 6 rfl) ml_Mo_106 lz_Mo_in rfl lw_Mo_in ⟨rfl, rfl, Nat.le_of_ble_eq_true rfl, Nat.le_of_ble_eq_true rfl⟩ rfl rfl (Nat.le_of_ble_eq_true rfl) (c_Mo_in)) ?_
    refine fv_if_ne (tgt := 20) (ft_d o_Mo_change 7 rfl) rfl rfl (fun c => ?_) (fun c => ?_)
    · have w := w.1 (ft_if1.mp c)
      refine fv_aload_n (ft_d o_Mo_change 10 rfl) rfl rfl ?_
      obtain ⟨R3, c4, w⟩ := w
      refine fv_callv (st := []) rfl rfl (ft_mm (pre := [.inr (.inr 309)]) rfl) (ft_rnV (K' := k_Mo_laysAside) (As := []) (ft_d o_Mo_change 11 rfl) ml_Mo_333 li_Mo_laysAside.1 li_Mo_laysAside.2 lw_Mo_laysAside ⟨rfl, rfl, Nat.le_of_ble_eq_true rfl, Nat.le_of_ble_eq_true rfl⟩ sh_309 rfl rfl rfl rfl (Nat.le_of_ble_eq_true rfl) c4) (fun h1 hw => ?_)
      have w := w h1 hw
      refine fv_aload_n (ft_d o_Mo_change 12 rfl) rfl rfl ?_
      refine fv_iload_n (ft_d o_Mo_change 13 rfl) rfl rfl ?_
      refine fv_sipush (ft_d o_Mo_change 14 rfl) rfl rfl ?_
      refine fv_icmp_ge (tgt := 38) (ft_d o_Mo_change 15 rfl) rfl rfl (fun c => ?_) (fun c => ?_)
      · have w := w.1 c
        refine fv_sipush (ft_d o_Mo_change 20 rfl) rfl rfl ?_
        obtain ⟨R5, c6, w⟩ := w
        refine fv_calli (st := []) (Or.inl rfl) rfl (ft_mm (pre := [.inl 1000, .inr (.inr 309)]) rfl) (ft_rnV (K' := k_Mo_syncs) (As := [.inl 1000]) (ft_d o_Mo_change 21 rfl) ml_Mo_336 li_Mo_syncs.1 li_Mo_syncs.2 lw_Mo_syncs ⟨rfl, rfl, Nat.le_of_ble_eq_true rfl, Nat.le_of_ble_eq_true rfl⟩ sh_309 rfl rfl rfl rfl (Nat.le_of_ble_eq_true rfl) c6) (fun z7 h2 hz hw => ?_)
        have w := w z7 h2 hz hw
        refine fv_istore_n (L' := [some (.inr (.inr 309)), some (.inl x1), some (.inl x2), some (.inl z7)]) (ft_d o_Mo_change 22 rfl) rfl (Nat.le_of_ble_eq_true rfl) rfl ?_
        refine fv_aload_n (ft_d o_Mo_change 23 rfl) rfl rfl ?_
        obtain ⟨R8, c9, w⟩ := w
        refine fv_callv (st := []) rfl rfl (ft_mm (pre := [.inr (.inr 309)]) rfl) (ft_rnV (K' := k_Mo_comesBack) (As := []) (ft_d o_Mo_change 24 rfl) ml_Mo_339 li_Mo_comesBack.1 li_Mo_comesBack.2 lw_Mo_comesBack ⟨rfl, rfl, Nat.le_of_ble_eq_true rfl, Nat.le_of_ble_eq_true rfl⟩ sh_309 rfl rfl rfl rfl (Nat.le_of_ble_eq_true rfl) c9) (fun h3 hw => ?_)
        have w := w h3 hw
        refine fv_iload_n (ft_d o_Mo_change 25 rfl) rfl rfl ?_
        refine fv_iload_n (ft_d o_Mo_change 26 rfl) rfl rfl ?_
        refine fv_icmp_gt (tgt := 58) (ft_d o_Mo_change 27 rfl) rfl rfl (fun c => ?_) (fun c => ?_)
        · have w := w.1 c
          refine fv_iload_n (ft_d o_Mo_change 30 rfl) rfl rfl ?_
          refine fv_if_ne (tgt := 72) (ft_d o_Mo_change 31 rfl) rfl rfl (fun c => ?_) (fun c => ?_)
          · have w := w.1 c
            refine fv_iload_n (ft_d o_Mo_change 36 rfl) rfl rfl ?_
            refine fv_iconst (ft_d o_Mo_change 37 rfl) rfl rfl ?_
            refine fv_icmp_ne (tgt := 85) (ft_d o_Mo_change 38 rfl) rfl rfl (fun c => ?_) (fun c => ?_)
            · have w := w.1 c
              refine fv_iload_n (ft_d o_Mo_change 43 rfl) rfl rfl ?_
              refine fv_iconst (ft_d o_Mo_change 44 rfl) rfl rfl ?_
              refine fv_icmp_ne (tgt := 98) (ft_d o_Mo_change 45 rfl) rfl rfl (fun c => ?_) (fun c => ?_)
              · have w := w.1 c
                refine fv_aload_n (ft_d o_Mo_change 50 rfl) rfl rfl ?_
                refine fv_getI (ft_d o_Mo_change 51 rfl) rfl fl_Mo_318 sh_309 rfl ?_
                refine fv_i2l (ft_d o_Mo_change 52 rfl) rfl ?_
                exact fv_lreturn (ft_d o_Mo_change 53 rfl) rfl w
              · have w := w.2 c
                refine fv_aload_n (ft_d o_Mo_change 46 rfl) rfl rfl ?_
                refine fv_getI (ft_d o_Mo_change 47 rfl) rfl fl_Mo_321 sh_309 rfl ?_
                refine fv_i2l (ft_d o_Mo_change 48 rfl) rfl ?_
                refine fv_goto (pc' := 103) (ft_d o_Mo_change 49 rfl) rfl ?_
                exact fv_lreturn (ft_d o_Mo_change 53 rfl) rfl w
            · have w := w.2 c
              refine fv_aload_n (ft_d o_Mo_change 39 rfl) rfl rfl ?_
              refine fv_getI (ft_d o_Mo_change 40 rfl) rfl fl_Mo_315 sh_309 rfl ?_
              refine fv_i2l (ft_d o_Mo_change 41 rfl) rfl ?_
              refine fv_goto (pc' := 103) (ft_d o_Mo_change 42 rfl) rfl ?_
              exact fv_lreturn (ft_d o_Mo_change 53 rfl) rfl w
          · have w := w.2 c
            refine fv_aload_n (ft_d o_Mo_change 32 rfl) rfl rfl ?_
            refine fv_getI (ft_d o_Mo_change 33 rfl) rfl fl_Mo_312 sh_309 rfl ?_
            refine fv_calllf (st := []) (z := pUn (h3 309 27)) rfl rfl (ft_mm (pre := [.inl (h3 309 27)]) rfl) (ft_rnS (K' := k_Mo_unsigned) (As := [.inl (h3 309 27)]) (ft_d o_Mo_change 34 rfl) ml_Mo_100 lz_Mo_unsigned rfl lw_Mo_unsigned ⟨rfl, rfl, Nat.le_of_ble_eq_true rfl, Nat.le_of_ble_eq_true rfl⟩ rfl rfl (Nat.le_of_ble_eq_true rfl) (c_Mo_unsigned)) ?_
            refine fv_goto (pc' := 103) (ft_d o_Mo_change 35 rfl) rfl ?_
            exact fv_lreturn (ft_d o_Mo_change 53 rfl) rfl w
        · have w := w.2 c
          refine fv_ldc2 (v := (-2)) (z := (-2)) (ft_d o_Mo_change 28 rfl) rfl (ft_gt 1207 (by decide +kernel) rfl) rfl ?_
          exact fv_lreturn (ft_d o_Mo_change 29 rfl) rfl w
      · have w := w.2 c
        refine fv_iload_n (ft_d o_Mo_change 16 rfl) rfl rfl ?_
        refine fv_iconst (ft_d o_Mo_change 17 rfl) rfl rfl ?_
        refine fv_iadd (ft_d o_Mo_change 18 rfl) rfl ?_
        refine fv_goto (pc' := 41) (ft_d o_Mo_change 19 rfl) rfl ?_
        obtain ⟨R12, c13, w⟩ := w
        refine fv_calli (st := []) (Or.inl rfl) rfl (ft_mm (pre := [.inl (ft_add x1 1), .inr (.inr 309)]) rfl) (ft_rnV (K' := k_Mo_syncs) (As := [.inl (ft_add x1 1)]) (ft_d o_Mo_change 21 rfl) ml_Mo_336 li_Mo_syncs.1 li_Mo_syncs.2 lw_Mo_syncs ⟨rfl, rfl, Nat.le_of_ble_eq_true rfl, Nat.le_of_ble_eq_true rfl⟩ sh_309 rfl rfl rfl rfl (Nat.le_of_ble_eq_true rfl) c13) (fun z14 h4 hz hw => ?_)
        have w := w z14 h4 hz hw
        refine fv_istore_n (L' := [some (.inr (.inr 309)), some (.inl x1), some (.inl x2), some (.inl z14)]) (ft_d o_Mo_change 22 rfl) rfl (Nat.le_of_ble_eq_true rfl) rfl ?_
        refine fv_aload_n (ft_d o_Mo_change 23 rfl) rfl rfl ?_
        obtain ⟨R15, c16, w⟩ := w
        refine fv_callv (st := []) rfl rfl (ft_mm (pre := [.inr (.inr 309)]) rfl) (ft_rnV (K' := k_Mo_comesBack) (As := []) (ft_d o_Mo_change 24 rfl) ml_Mo_339 li_Mo_comesBack.1 li_Mo_comesBack.2 lw_Mo_comesBack ⟨rfl, rfl, Nat.le_of_ble_eq_true rfl, Nat.le_of_ble_eq_true rfl⟩ sh_309 rfl rfl rfl rfl (Nat.le_of_ble_eq_true rfl) c16) (fun h5 hw => ?_)
        have w := w h5 hw
        refine fv_iload_n (ft_d o_Mo_change 25 rfl) rfl rfl ?_
        refine fv_iload_n (ft_d o_Mo_change 26 rfl) rfl rfl ?_
        refine fv_icmp_gt (tgt := 58) (ft_d o_Mo_change 27 rfl) rfl rfl (fun c => ?_) (fun c => ?_)
        · have w := w.1 c
          refine fv_iload_n (ft_d o_Mo_change 30 rfl) rfl rfl ?_
          refine fv_if_ne (tgt := 72) (ft_d o_Mo_change 31 rfl) rfl rfl (fun c => ?_) (fun c => ?_)
          · have w := w.1 c
            refine fv_iload_n (ft_d o_Mo_change 36 rfl) rfl rfl ?_
            refine fv_iconst (ft_d o_Mo_change 37 rfl) rfl rfl ?_
            refine fv_icmp_ne (tgt := 85) (ft_d o_Mo_change 38 rfl) rfl rfl (fun c => ?_) (fun c => ?_)
            · have w := w.1 c
              refine fv_iload_n (ft_d o_Mo_change 43 rfl) rfl rfl ?_
              refine fv_iconst (ft_d o_Mo_change 44 rfl) rfl rfl ?_
              refine fv_icmp_ne (tgt := 98) (ft_d o_Mo_change 45 rfl) rfl rfl (fun c => ?_) (fun c => ?_)
              · have w := w.1 c
                refine fv_aload_n (ft_d o_Mo_change 50 rfl) rfl rfl ?_
                refine fv_getI (ft_d o_Mo_change 51 rfl) rfl fl_Mo_318 sh_309 rfl ?_
                refine fv_i2l (ft_d o_Mo_change 52 rfl) rfl ?_
                exact fv_lreturn (ft_d o_Mo_change 53 rfl) rfl w
              · have w := w.2 c
                refine fv_aload_n (ft_d o_Mo_change 46 rfl) rfl rfl ?_
                refine fv_getI (ft_d o_Mo_change 47 rfl) rfl fl_Mo_321 sh_309 rfl ?_
                refine fv_i2l (ft_d o_Mo_change 48 rfl) rfl ?_
                refine fv_goto (pc' := 103) (ft_d o_Mo_change 49 rfl) rfl ?_
                exact fv_lreturn (ft_d o_Mo_change 53 rfl) rfl w
            · have w := w.2 c
              refine fv_aload_n (ft_d o_Mo_change 39 rfl) rfl rfl ?_
              refine fv_getI (ft_d o_Mo_change 40 rfl) rfl fl_Mo_315 sh_309 rfl ?_
              refine fv_i2l (ft_d o_Mo_change 41 rfl) rfl ?_
              refine fv_goto (pc' := 103) (ft_d o_Mo_change 42 rfl) rfl ?_
              exact fv_lreturn (ft_d o_Mo_change 53 rfl) rfl w
          · have w := w.2 c
            refine fv_aload_n (ft_d o_Mo_change 32 rfl) rfl rfl ?_
            refine fv_getI (ft_d o_Mo_change 33 rfl) rfl fl_Mo_312 sh_309 rfl ?_
            refine fv_calllf (st := []) (z := pUn (h5 309 27)) rfl rfl (ft_mm (pre := [.inl (h5 309 27)]) rfl) (ft_rnS (K' := k_Mo_unsigned) (As := [.inl (h5 309 27)]) (ft_d o_Mo_change 34 rfl) ml_Mo_100 lz_Mo_unsigned rfl lw_Mo_unsigned ⟨rfl, rfl, Nat.le_of_ble_eq_true rfl, Nat.le_of_ble_eq_true rfl⟩ rfl rfl (Nat.le_of_ble_eq_true rfl) (c_Mo_unsigned)) ?_
            refine fv_goto (pc' := 103) (ft_d o_Mo_change 35 rfl) rfl ?_
            exact fv_lreturn (ft_d o_Mo_change 53 rfl) rfl w
        · have w := w.2 c
          refine fv_ldc2 (v := (-2)) (z := (-2)) (ft_d o_Mo_change 28 rfl) rfl (ft_gt 1207 (by decide +kernel) rfl) rfl ?_
          exact fv_lreturn (ft_d o_Mo_change 29 rfl) rfl w
    · have w := w.2 (ft_if0.mp c)
      refine fv_ldc2 (v := (-1)) (z := (-1)) (ft_d o_Mo_change 8 rfl) rfl (ft_gt 1202 (by decide +kernel) rfl) rfl ?_
      exact fv_lreturn (ft_d o_Mo_change 9 rfl) rfl w
set_option maxRecDepth 20000 in
theorem b_Mo_missedAfter_0 {x1 : Int} {h : ftH} {R : Option ftV → ftH → Prop} 
    (w : (((0 : Int) ≤ x1 ∧ x1 ≤ (200 : Int) → (∃ R3 : Option ftV → ftH → Prop, ft_C k_Mo_laysAside [.inr (.inr 309)] h R3 ∧ ∀ h1 : ftH, R3 none h1 → ((x1 ≤ 0 → (∃ R5 : Option ftV → ftH → Prop, ft_C k_Mo_missedNow [.inr (.inr 309)] h1 R5 ∧ ∀ (z7 : Int) (h2 : ftH), ft_in z7 → R5 (some (.inl z7)) h2 → (∃ R8 : Option ftV → ftH → Prop, ft_C k_Mo_comesBack [.inr (.inr 309)] h2 R8 ∧ ∀ h3 : ftH, R8 none h3 → R (some (.inl z7)) h3))) ∧ (¬ (x1 ≤ 0) → (∃ R10 : Option ftV → ftH → Prop, ft_C k_Mo_syncs [.inr (.inr 309), .inl x1] h1 R10 ∧ ∀ (z12 : Int) (h4 : ftH), ft_in z12 → R10 (some (.inl z12)) h4 → (∃ R13 : Option ftV → ftH → Prop, ft_C k_Mo_missedNow [.inr (.inr 309)] h4 R13 ∧ ∀ (z15 : Int) (h5 : ftH), ft_in z15 → R13 (some (.inl z15)) h5 → (∃ R16 : Option ftV → ftH → Prop, ft_C k_Mo_comesBack [.inr (.inr 309)] h5 R16 ∧ ∀ h6 : ftH, R16 none h6 → R (some (.inl z15)) h6))))))) ∧ (¬ ((0 : Int) ≤ x1 ∧ x1 ≤ (200 : Int)) → R (some (.inl ((-1)))) h))) : ft_V k_Mo_missedAfter 0 [some (.inr (.inr 309)), some (.inl x1), none] [] h R := by
  refine fv_iload_n (ft_d o_Mo_missedAfter 0 rfl) rfl rfl ?_
  refine fv_i2l (ft_d o_Mo_missedAfter 1 rfl) rfl ?_
  refine fv_lconst (z := 0) (ft_d o_Mo_missedAfter 2 rfl) rfl rfl ?_
  refine fv_ldc2 (v := 200) (z := 200) (ft_d o_Mo_missedAfter 3 rfl) rfl (ft_gt 1551 (by decide +kernel) rfl) rfl ?_
  refine fv_callif (st := []) (z := (if (0 : Int) ≤ x1 ∧ x1 ≤ (200 : Int) then 1 else 0)) (Or.inr rfl) rfl (ft_mm (pre := [.inr (.inl 200), .inr (.inl 0), .inr (.inl x1)]) rfl) (ft_rnS (K' := k_Mo_in) (As := [.inr (.inl x1), .inr (.inl 0), .inr (.inl 200)]) (ft_d o_Mo_missedAfter 4 rfl) ml_Mo_106 lz_Mo_in rfl lw_Mo_in ⟨rfl, rfl, Nat.le_of_ble_eq_true rfl, Nat.le_of_ble_eq_true rfl⟩ rfl rfl (Nat.le_of_ble_eq_true rfl) (c_Mo_in)) ?_
  refine fv_if_ne (tgt := 14) (ft_d o_Mo_missedAfter 5 rfl) rfl rfl (fun c => ?_) (fun c => ?_)
  · have w := w.1 (ft_if1.mp c)
    refine fv_aload_n (ft_d o_Mo_missedAfter 8 rfl) rfl rfl ?_
    obtain ⟨R3, c4, w⟩ := w
    refine fv_callv (st := []) rfl rfl (ft_mm (pre := [.inr (.inr 309)]) rfl) (ft_rnV (K' := k_Mo_laysAside) (As := []) (ft_d o_Mo_missedAfter 9 rfl) ml_Mo_333 li_Mo_laysAside.1 li_Mo_laysAside.2 lw_Mo_laysAside ⟨rfl, rfl, Nat.le_of_ble_eq_true rfl, Nat.le_of_ble_eq_true rfl⟩ sh_309 rfl rfl rfl rfl (Nat.le_of_ble_eq_true rfl) c4) (fun h1 hw => ?_)
    have w := w h1 hw
    refine fv_iload_n (ft_d o_Mo_missedAfter 10 rfl) rfl rfl ?_
    refine fv_if_le (tgt := 28) (ft_d o_Mo_missedAfter 11 rfl) rfl rfl (fun c => ?_) (fun c => ?_)
    · have w := w.1 c
      refine fv_aload_n (ft_d o_Mo_missedAfter 16 rfl) rfl rfl ?_
      obtain ⟨R5, c6, w⟩ := w
      refine fv_calli (st := []) (Or.inl rfl) rfl (ft_mm (pre := [.inr (.inr 309)]) rfl) (ft_rnV (K' := k_Mo_missedNow) (As := []) (ft_d o_Mo_missedAfter 17 rfl) ml_Mo_305 li_Mo_missedNow.1 li_Mo_missedNow.2 lw_Mo_missedNow ⟨rfl, rfl, Nat.le_of_ble_eq_true rfl, Nat.le_of_ble_eq_true rfl⟩ sh_309 rfl rfl rfl rfl (Nat.le_of_ble_eq_true rfl) c6) (fun z7 h2 hz hw => ?_)
      have w := w z7 h2 hz hw
      refine fv_istore_n (L' := [some (.inr (.inr 309)), some (.inl x1), some (.inl z7)]) (ft_d o_Mo_missedAfter 18 rfl) rfl (Nat.le_of_ble_eq_true rfl) rfl ?_
      refine fv_aload_n (ft_d o_Mo_missedAfter 19 rfl) rfl rfl ?_
      obtain ⟨R8, c9, w⟩ := w
      refine fv_callv (st := []) rfl rfl (ft_mm (pre := [.inr (.inr 309)]) rfl) (ft_rnV (K' := k_Mo_comesBack) (As := []) (ft_d o_Mo_missedAfter 20 rfl) ml_Mo_339 li_Mo_comesBack.1 li_Mo_comesBack.2 lw_Mo_comesBack ⟨rfl, rfl, Nat.le_of_ble_eq_true rfl, Nat.le_of_ble_eq_true rfl⟩ sh_309 rfl rfl rfl rfl (Nat.le_of_ble_eq_true rfl) c9) (fun h3 hw => ?_)
      have w := w h3 hw
      refine fv_iload_n (ft_d o_Mo_missedAfter 21 rfl) rfl rfl ?_
      exact fv_ireturn (ft_d o_Mo_missedAfter 22 rfl) rfl w
    · have w := w.2 c
      refine fv_aload_n (ft_d o_Mo_missedAfter 12 rfl) rfl rfl ?_
      refine fv_iload_n (ft_d o_Mo_missedAfter 13 rfl) rfl rfl ?_
      obtain ⟨R10, c11, w⟩ := w
      refine fv_calli (st := []) (Or.inl rfl) rfl (ft_mm (pre := [.inl x1, .inr (.inr 309)]) rfl) (ft_rnV (K' := k_Mo_syncs) (As := [.inl x1]) (ft_d o_Mo_missedAfter 14 rfl) ml_Mo_336 li_Mo_syncs.1 li_Mo_syncs.2 lw_Mo_syncs ⟨rfl, rfl, Nat.le_of_ble_eq_true rfl, Nat.le_of_ble_eq_true rfl⟩ sh_309 rfl rfl rfl rfl (Nat.le_of_ble_eq_true rfl) c11) (fun z12 h4 hz hw => ?_)
      have w := w z12 h4 hz hw
      refine fv_pop (ft_d o_Mo_missedAfter 15 rfl) rfl rfl ?_
      refine fv_aload_n (ft_d o_Mo_missedAfter 16 rfl) rfl rfl ?_
      obtain ⟨R13, c14, w⟩ := w
      refine fv_calli (st := []) (Or.inl rfl) rfl (ft_mm (pre := [.inr (.inr 309)]) rfl) (ft_rnV (K' := k_Mo_missedNow) (As := []) (ft_d o_Mo_missedAfter 17 rfl) ml_Mo_305 li_Mo_missedNow.1 li_Mo_missedNow.2 lw_Mo_missedNow ⟨rfl, rfl, Nat.le_of_ble_eq_true rfl, Nat.le_of_ble_eq_true rfl⟩ sh_309 rfl rfl rfl rfl (Nat.le_of_ble_eq_true rfl) c14) (fun z15 h5 hz hw => ?_)
      have w := w z15 h5 hz hw
      refine fv_istore_n (L' := [some (.inr (.inr 309)), some (.inl x1), some (.inl z15)]) (ft_d o_Mo_missedAfter 18 rfl) rfl (Nat.le_of_ble_eq_true rfl) rfl ?_
      refine fv_aload_n (ft_d o_Mo_missedAfter 19 rfl) rfl rfl ?_
      obtain ⟨R16, c17, w⟩ := w
      refine fv_callv (st := []) rfl rfl (ft_mm (pre := [.inr (.inr 309)]) rfl) (ft_rnV (K' := k_Mo_comesBack) (As := []) (ft_d o_Mo_missedAfter 20 rfl) ml_Mo_339 li_Mo_comesBack.1 li_Mo_comesBack.2 lw_Mo_comesBack ⟨rfl, rfl, Nat.le_of_ble_eq_true rfl, Nat.le_of_ble_eq_true rfl⟩ sh_309 rfl rfl rfl rfl (Nat.le_of_ble_eq_true rfl) c17) (fun h6 hw => ?_)
      have w := w h6 hw
      refine fv_iload_n (ft_d o_Mo_missedAfter 21 rfl) rfl rfl ?_
      exact fv_ireturn (ft_d o_Mo_missedAfter 22 rfl) rfl w
  · have w := w.2 (ft_if0.mp c)
    refine fv_iconst (ft_d o_Mo_missedAfter 6 rfl) rfl rfl ?_
    exact fv_ireturn (ft_d o_Mo_missedAfter 7 rfl) rfl w
set_option maxRecDepth 20000 in
theorem b_Mo_sync_0 {x1 : Int} {h : ftH} {R : Option ftV → ftH → Prop} 
    (w : (((1 : Int) ≤ x1 ∧ x1 ≤ (200 : Int) → (∃ R3 : Option ftV → ftH → Prop, ft_C k_Mo_laysAside [.inr (.inr 309)] h R3 ∧ ∀ h1 : ftH, R3 none h1 → (∃ R5 : Option ftV → ftH → Prop, ft_C k_Mo_syncs [.inr (.inr 309), .inl 1] h1 R5 ∧ ∀ (z7 : Int) (h2 : ftH), ft_in z7 → R5 (some (.inl z7)) h2 → (∃ R8 : Option ftV → ftH → Prop, ft_C k_Mo_comesBack [.inr (.inr 309)] h2 R8 ∧ ∀ h3 : ftH, R8 none h3 → ((¬ (z7 = 0) → (∃ R10 : Option ftV → ftH → Prop, ft_C k_Mo_keepsPast [.inr (.inr 309)] h3 R10 ∧ ∀ h4 : ftH, R10 none h4 → (∃ R12 : Option ftV → ftH → Prop, ft_C k_Mo_syncs [.inr (.inr 309), .inl x1] h4 R12 ∧ ∀ (z14 : Int) (h5 : ftH), ft_in z14 → R12 (some (.inl z14)) h5 → R (some (.inl z14)) h5))) ∧ (z7 = 0 → R (some (.inl ((-2)))) h3)))))) ∧ (¬ ((1 : Int) ≤ x1 ∧ x1 ≤ (200 : Int)) → R (some (.inl ((-1)))) h))) : ft_V k_Mo_sync 0 [some (.inr (.inr 309)), some (.inl x1), none] [] h R := by
  refine fv_iload_n (ft_d o_Mo_sync 0 rfl) rfl rfl ?_
  refine fv_i2l (ft_d o_Mo_sync 1 rfl) rfl ?_
  refine fv_lconst (z := 1) (ft_d o_Mo_sync 2 rfl) rfl rfl ?_
  refine fv_ldc2 (v := 200) (z := 200) (ft_d o_Mo_sync 3 rfl) rfl (ft_gt 1551 (by decide +kernel) rfl) rfl ?_
  refine fv_callif (st := []) (z := (if (1 : Int) ≤ x1 ∧ x1 ≤ (200 : Int) then 1 else 0)) (Or.inr rfl) rfl (ft_mm (pre := [.inr (.inl 200), .inr (.inl 1), .inr (.inl x1)]) rfl) (ft_rnS (K' := k_Mo_in) (As := [.inr (.inl x1), .inr (.inl 1), .inr (.inl 200)]) (ft_d o_Mo_sync 4 rfl) ml_Mo_106 lz_Mo_in rfl lw_Mo_in ⟨rfl, rfl, Nat.le_of_ble_eq_true rfl, Nat.le_of_ble_eq_true rfl⟩ rfl rfl (Nat.le_of_ble_eq_true rfl) (c_Mo_in)) ?_
  refine fv_if_ne (tgt := 14) (ft_d o_Mo_sync 5 rfl) rfl rfl (fun c => ?_) (fun c => ?_)
  · have w := w.1 (ft_if1.mp c)
    refine fv_aload_n (ft_d o_Mo_sync 8 rfl) rfl rfl ?_
    obtain ⟨R3, c4, w⟩ := w
    refine fv_callv (st := []) rfl rfl (ft_mm (pre := [.inr (.inr 309)]) rfl) (ft_rnV (K' := k_Mo_laysAside) (As := []) (ft_d o_Mo_sync 9 rfl) ml_Mo_333 li_Mo_laysAside.1 li_Mo_laysAside.2 lw_Mo_laysAside ⟨rfl, rfl, Nat.le_of_ble_eq_true rfl, Nat.le_of_ble_eq_true rfl⟩ sh_309 rfl rfl rfl rfl (Nat.le_of_ble_eq_true rfl) c4) (fun h1 hw => ?_)
    have w := w h1 hw
    refine fv_aload_n (ft_d o_Mo_sync 10 rfl) rfl rfl ?_
    refine fv_iconst (ft_d o_Mo_sync 11 rfl) rfl rfl ?_
    obtain ⟨R5, c6, w⟩ := w
    refine fv_calli (st := []) (Or.inl rfl) rfl (ft_mm (pre := [.inl 1, .inr (.inr 309)]) rfl) (ft_rnV (K' := k_Mo_syncs) (As := [.inl 1]) (ft_d o_Mo_sync 12 rfl) ml_Mo_336 li_Mo_syncs.1 li_Mo_syncs.2 lw_Mo_syncs ⟨rfl, rfl, Nat.le_of_ble_eq_true rfl, Nat.le_of_ble_eq_true rfl⟩ sh_309 rfl rfl rfl rfl (Nat.le_of_ble_eq_true rfl) c6) (fun z7 h2 hz hw => ?_)
    have w := w z7 h2 hz hw
    refine fv_istore_n (L' := [some (.inr (.inr 309)), some (.inl x1), some (.inl z7)]) (ft_d o_Mo_sync 13 rfl) rfl (Nat.le_of_ble_eq_true rfl) rfl ?_
    refine fv_aload_n (ft_d o_Mo_sync 14 rfl) rfl rfl ?_
    obtain ⟨R8, c9, w⟩ := w
    refine fv_callv (st := []) rfl rfl (ft_mm (pre := [.inr (.inr 309)]) rfl) (ft_rnV (K' := k_Mo_comesBack) (As := []) (ft_d o_Mo_sync 15 rfl) ml_Mo_339 li_Mo_comesBack.1 li_Mo_comesBack.2 lw_Mo_comesBack ⟨rfl, rfl, Nat.le_of_ble_eq_true rfl, Nat.le_of_ble_eq_true rfl⟩ sh_309 rfl rfl rfl rfl (Nat.le_of_ble_eq_true rfl) c9) (fun h3 hw => ?_)
    have w := w h3 hw
    refine fv_iload_n (ft_d o_Mo_sync 16 rfl) rfl rfl ?_
    refine fv_if_ne (tgt := 35) (ft_d o_Mo_sync 17 rfl) rfl rfl (fun c => ?_) (fun c => ?_)
    · have w := w.1 c
      refine fv_aload_n (ft_d o_Mo_sync 20 rfl) rfl rfl ?_
      obtain ⟨R10, c11, w⟩ := w
      refine fv_callv (st := []) rfl rfl (ft_mm (pre := [.inr (.inr 309)]) rfl) (ft_rnV (K' := k_Mo_keepsPast) (As := []) (ft_d o_Mo_sync 21 rfl) ml_Mo_196 li_Mo_keepsPast.1 li_Mo_keepsPast.2 lw_Mo_keepsPast ⟨rfl, rfl, Nat.le_of_ble_eq_true rfl, Nat.le_of_ble_eq_true rfl⟩ sh_309 rfl rfl rfl rfl (Nat.le_of_ble_eq_true rfl) c11) (fun h4 hw => ?_)
      have w := w h4 hw
      refine fv_aload_n (ft_d o_Mo_sync 22 rfl) rfl rfl ?_
      refine fv_iload_n (ft_d o_Mo_sync 23 rfl) rfl rfl ?_
      obtain ⟨R12, c13, w⟩ := w
      refine fv_calli (st := []) (Or.inl rfl) rfl (ft_mm (pre := [.inl x1, .inr (.inr 309)]) rfl) (ft_rnV (K' := k_Mo_syncs) (As := [.inl x1]) (ft_d o_Mo_sync 24 rfl) ml_Mo_336 li_Mo_syncs.1 li_Mo_syncs.2 lw_Mo_syncs ⟨rfl, rfl, Nat.le_of_ble_eq_true rfl, Nat.le_of_ble_eq_true rfl⟩ sh_309 rfl rfl rfl rfl (Nat.le_of_ble_eq_true rfl) c13) (fun z14 h5 hz hw => ?_)
      have w := w z14 h5 hz hw
      exact fv_ireturn (ft_d o_Mo_sync 25 rfl) rfl w
    · have w := w.2 c
      refine fv_bipush (ft_d o_Mo_sync 18 rfl) rfl rfl ?_
      exact fv_ireturn (ft_d o_Mo_sync 19 rfl) rfl w
  · have w := w.2 (ft_if0.mp c)
    refine fv_iconst (ft_d o_Mo_sync 6 rfl) rfl rfl ?_
    exact fv_ireturn (ft_d o_Mo_sync 7 rfl) rfl w
set_option maxRecDepth 20000 in
theorem b_Mo_clear_0  {h : ftH} {R : Option ftV → ftH → Prop} 
    (w : ((¬ (h 310 2 = 0) → (∃ R1 : Option ftV → ftH → Prop, ft_C k_Mo_keepsPast [.inr (.inr 309)] h R1 ∧ ∀ h1 : ftH, R1 none h1 → (∀ n3 : Int, n3 = h1 310 2 → (∃ R4 : Option ftV → ftH → Prop, ft_C k_Mo_clears [.inr (.inr 309)] h1 R4 ∧ ∀ h2 : ftH, R4 none h2 → R (some (.inl n3)) h2)))) ∧ (h 310 2 = 0 → R (some (.inl ((-2)))) h))) : ft_V k_Mo_clear 0 [some (.inr (.inr 309)), none] [] h R := by
  refine fv_aload_n (ft_d o_Mo_clear 0 rfl) rfl rfl ?_
  refine fv_getR (b := 310) (ft_d o_Mo_clear 1 rfl) rfl fl_Mo_13 sh_309 rfl ly_309_1 ?_
  refine fv_iconst (ft_d o_Mo_clear 2 rfl) rfl rfl ?_
  refine fv_ialdj (j := 2) (ft_d o_Mo_clear 3 rfl) rfl sh_310 ⟨by decide, by decide⟩ rfl ?_
  refine fv_if_ne (tgt := 12) (ft_d o_Mo_clear 4 rfl) rfl rfl (fun c => ?_) (fun c => ?_)
  · have w := w.1 c
    refine fv_aload_n (ft_d o_Mo_clear 7 rfl) rfl rfl ?_
    obtain ⟨R1, c2, w⟩ := w
    refine fv_callv (st := []) rfl rfl (ft_mm (pre := [.inr (.inr 309)]) rfl) (ft_rnV (K' := k_Mo_keepsPast) (As := []) (ft_d o_Mo_clear 8 rfl) ml_Mo_196 li_Mo_keepsPast.1 li_Mo_keepsPast.2 lw_Mo_keepsPast ⟨rfl, rfl, Nat.le_of_ble_eq_true rfl, Nat.le_of_ble_eq_true rfl⟩ sh_309 rfl rfl rfl rfl (Nat.le_of_ble_eq_true rfl) c2) (fun h1 hw => ?_)
    have w := w h1 hw
    refine fv_aload_n (ft_d o_Mo_clear 9 rfl) rfl rfl ?_
    refine fv_getR (b := 310) (ft_d o_Mo_clear 10 rfl) rfl fl_Mo_13 sh_309 rfl ly_309_1 ?_
    refine fv_iconst (ft_d o_Mo_clear 11 rfl) rfl rfl ?_
    refine fv_ialdj (j := 2) (ft_d o_Mo_clear 12 rfl) rfl sh_310 ⟨by decide, by decide⟩ rfl ?_
    generalize en3 : h1 310 2 = n3
    have w := w n3 en3.symm
    refine fv_istore_n (L' := [some (.inr (.inr 309)), some (.inl n3)]) (ft_d o_Mo_clear 13 rfl) rfl (Nat.le_of_ble_eq_true rfl) rfl ?_
    refine fv_aload_n (ft_d o_Mo_clear 14 rfl) rfl rfl ?_
    obtain ⟨R4, c5, w⟩ := w
    refine fv_callv (st := []) rfl rfl (ft_mm (pre := [.inr (.inr 309)]) rfl) (ft_rnV (K' := k_Mo_clears) (As := []) (ft_d o_Mo_clear 15 rfl) ml_Mo_186 li_Mo_clears.1 li_Mo_clears.2 lw_Mo_clears ⟨rfl, rfl, Nat.le_of_ble_eq_true rfl, Nat.le_of_ble_eq_true rfl⟩ sh_309 rfl rfl rfl rfl (Nat.le_of_ble_eq_true rfl) c5) (fun h2 hw => ?_)
    have w := w h2 hw
    refine fv_iload_n (ft_d o_Mo_clear 16 rfl) rfl rfl ?_
    exact fv_ireturn (ft_d o_Mo_clear 17 rfl) rfl w
  · have w := w.2 c
    refine fv_bipush (ft_d o_Mo_clear 5 rfl) rfl rfl ?_
    exact fv_ireturn (ft_d o_Mo_clear 6 rfl) rfl w
set_option maxRecDepth 20000 in
theorem b_Mo_addresses_0 {x1 : Int} {h : ftH} {R : Option ftV → ftH → Prop} 
    (w : (((0 : Int) ≤ x1 ∧ x1 ≤ (15 : Int) → ft_V k_Mo_addresses 24 [some (.inr (.inr 309)), some (.inl x1), some (.inr (.inl 0)), none, some (.inr (.inl 0)), none, some (.inl 0), none, none] [] h R) ∧ (¬ ((0 : Int) ≤ x1 ∧ x1 ≤ (15 : Int)) → R (some (.inr (.inl ((-1))))) h))) : ft_V k_Mo_addresses 0 [some (.inr (.inr 309)), some (.inl x1), none, none, none, none, none, none, none] [] h R := by
  refine fv_iload_n (ft_d o_Mo_addresses 0 rfl) rfl rfl ?_
  refine fv_i2l (ft_d o_Mo_addresses 1 rfl) rfl ?_
  refine fv_lconst (z := 0) (ft_d o_Mo_addresses 2 rfl) rfl rfl ?_
  refine fv_ldc2 (v := 15) (z := 15) (ft_d o_Mo_addresses 3 rfl) rfl (ft_gt 1269 (by decide +kernel) rfl) rfl ?_
  refine fv_callif (st := []) (z := (if (0 : Int) ≤ x1 ∧ x1 ≤ (15 : Int) then 1 else 0)) (Or.inr rfl) rfl (ft_mm (pre := [.inr (.inl 15), .inr (.inl 0), .inr (.inl x1)]) rfl) (ft_rnS (K' := k_Mo_in) (As := [.inr (.inl x1), .inr (.inl 0), .inr (.inl 15)]) (ft_d o_Mo_addresses 4 rfl) ml_Mo_106 lz_Mo_in rfl lw_Mo_in ⟨rfl, rfl, Nat.le_of_ble_eq_true rfl, Nat.le_of_ble_eq_true rfl⟩ rfl rfl (Nat.le_of_ble_eq_true rfl) (c_Mo_in)) ?_
  refine fv_if_ne (tgt := 16) (ft_d o_Mo_addresses 5 rfl) rfl rfl (fun c => ?_) (fun c => ?_)
  · have w := w.1 (ft_if1.mp c)
    refine fv_lconst (z := 0) (ft_d o_Mo_addresses 8 rfl) rfl rfl ?_
    refine fv_lstore_n (L' := [some (.inr (.inr 309)), some (.inl x1), some (.inr (.inl 0)), none, none, none, none, none, none]) (ft_d o_Mo_addresses 9 rfl) rfl (Nat.le_of_ble_eq_true rfl) rfl ?_
    refine fv_lconst (z := 0) (ft_d o_Mo_addresses 10 rfl) rfl rfl ?_
    refine fv_lstore (L' := [some (.inr (.inr 309)), some (.inl x1), some (.inr (.inl 0)), none, some (.inr (.inl 0)), none, none, none, none]) (ft_d o_Mo_addresses 11 rfl) rfl (Nat.le_of_ble_eq_true rfl) rfl ?_
    refine fv_iconst (ft_d o_Mo_addresses 12 rfl) rfl rfl ?_
    refine fv_istore (L' := [some (.inr (.inr 309)), some (.inl x1), some (.inr (.inl 0)), none, some (.inr (.inl 0)), none, some (.inl 0), none, none]) (ft_d o_Mo_addresses 13 rfl) rfl (Nat.le_of_ble_eq_true rfl) rfl ?_
    exact w
  · have w := w.2 (ft_if0.mp c)
    refine fv_ldc2 (v := (-1)) (z := (-1)) (ft_d o_Mo_addresses 6 rfl) rfl (ft_gt 1202 (by decide +kernel) rfl) rfl ?_
    exact fv_lreturn (ft_d o_Mo_addresses 7 rfl) rfl w
set_option maxRecDepth 20000 in
theorem b_Mo_addresses_24 {x1 : Int} {x2 : Int} {x4 : Int} {x6 : Int} {h : ftH} {R : Option ftV → ftH → Prop} 
    (w : ((h 310 0 ≤ x6 → ((¬ (x1 = 0) → R (some (.inr (.inl x2))) h) ∧ (x1 = 0 → R (some (.inr (.inl (ft_subL (ft_addL x2 4294967296) x4)))) h))) ∧ (¬ (h 310 0 ≤ x6) → (∃ R1 : Option ftV → ftH → Prop, ft_C k_Mo_areaOf [.inr (.inr 309), .inl 10, .inl (h 310 0), .inl x6] h R1 ∧ ∀ (z3 : Int) (h1 : ftH), ft_inL z3 → R1 (some (.inr (.inl z3))) h1 → (∀ n4 : Int, n4 = ft_addL x4 z3 → ((0 ≤ x6 ∧ x6 < 60) ∧ ((¬ (h1 310 (12 + 3 * x6.toNat) = x1) → ft_V k_Mo_addresses 24 [some (.inr (.inr 309)), some (.inl x1), some (.inr (.inl x2)), none, some (.inr (.inl n4)), none, some (.inl (ft_add x6 1)), none, none] [] h1 R) ∧ (h1 310 (12 + 3 * x6.toNat) = x1 → (∀ n7 : Int, n7 = ft_addL x2 z3 → ft_V k_Mo_addresses 24 [some (.inr (.inr 309)), some (.inl x1), some (.inr (.inl n7)), none, some (.inr (.inl n4)), none, some (.inl (ft_add x6 1)), none, none] [] h1 R))))))))) : ft_V k_Mo_addresses 24 [some (.inr (.inr 309)), some (.inl x1), some (.inr (.inl x2)), none, some (.inr (.inl x4)), none, some (.inl x6), none, none] [] h R := by
  refine fv_iload (ft_d o_Mo_addresses 14 rfl) rfl rfl ?_
  refine fv_aload_n (ft_d o_Mo_addresses 15 rfl) rfl rfl ?_
  refine fv_getR (b := 310) (ft_d o_Mo_addresses 16 rfl) rfl fl_Mo_13 sh_309 rfl ly_309_1 ?_
  refine fv_iconst (ft_d o_Mo_addresses 17 rfl) rfl rfl ?_
  refine fv_ialdj (j := 0) (ft_d o_Mo_addresses 18 rfl) rfl sh_310 ⟨by decide, by decide⟩ rfl ?_
  refine fv_icmp_ge (tgt := 79) (ft_d o_Mo_addresses 19 rfl) rfl rfl (fun c => ?_) (fun c => ?_)
  · have w := w.1 c
    refine fv_iload_n (ft_d o_Mo_addresses 44 rfl) rfl rfl ?_
    refine fv_if_ne (tgt := 94) (ft_d o_Mo_addresses 45 rfl) rfl rfl (fun c => ?_) (fun c => ?_)
    · have w := w.1 c
      refine fv_lload_n (ft_d o_Mo_addresses 52 rfl) rfl rfl ?_
      exact fv_lreturn (ft_d o_Mo_addresses 53 rfl) rfl w
    · have w := w.2 c
      refine fv_lload_n (ft_d o_Mo_addresses 46 rfl) rfl rfl ?_
      refine fv_ldc2 (v := 4294967296) (z := 4294967296) (ft_d o_Mo_addresses 47 rfl) rfl (ft_gt 1564 (by decide +kernel) rfl) rfl ?_
      refine fv_ladd (ft_d o_Mo_addresses 48 rfl) rfl ?_
      refine fv_lload (ft_d o_Mo_addresses 49 rfl) rfl rfl ?_
      refine fv_lsub (ft_d o_Mo_addresses 50 rfl) rfl ?_
      refine fv_goto (pc' := 95) (ft_d o_Mo_addresses 51 rfl) rfl ?_
      exact fv_lreturn (ft_d o_Mo_addresses 53 rfl) rfl w
  · have w := w.2 c
    refine fv_aload_n (ft_d o_Mo_addresses 20 rfl) rfl rfl ?_
    refine fv_bipush (ft_d o_Mo_addresses 21 rfl) rfl rfl ?_
    refine fv_aload_n (ft_d o_Mo_addresses 22 rfl) rfl rfl ?_
    refine fv_getR (b := 310) (ft_d o_Mo_addresses 23 rfl) rfl fl_Mo_13 sh_309 rfl ly_309_1 ?_
    refine fv_iconst (ft_d o_Mo_addresses 24 rfl) rfl rfl ?_
    refine fv_ialdj (j := 0) (ft_d o_Mo_addresses 25 rfl) rfl sh_310 ⟨by decide, by decide⟩ rfl ?_
    refine fv_iload (ft_d o_Mo_addresses 26 rfl) rfl rfl ?_
    obtain ⟨R1, c2, w⟩ := w
    refine fv_calll (st := []) rfl rfl (ft_mm (pre := [.inl x6, .inl (h 310 0), .inl 10, .inr (.inr 309)]) rfl) (ft_rnV (K' := k_Mo_areaOf) (As := [.inl 10, .inl (h 310 0), .inl x6]) (ft_d o_Mo_addresses 27 rfl) ml_Mo_150 li_Mo_areaOf.1 li_Mo_areaOf.2 lw_Mo_areaOf ⟨rfl, rfl, Nat.le_of_ble_eq_true rfl, Nat.le_of_ble_eq_true rfl⟩ sh_309 rfl rfl rfl rfl (Nat.le_of_ble_eq_true rfl) c2) (fun z3 h1 hz hw => ?_)
    have w := w z3 h1 hz hw
    refine fv_lstore (L' := [some (.inr (.inr 309)), some (.inl x1), some (.inr (.inl x2)), none, some (.inr (.inl x4)), none, some (.inl x6), some (.inr (.inl z3)), none]) (ft_d o_Mo_addresses 28 rfl) rfl (Nat.le_of_ble_eq_true rfl) rfl ?_
    refine fv_lload (ft_d o_Mo_addresses 29 rfl) rfl rfl ?_
    refine fv_lload (ft_d o_Mo_addresses 30 rfl) rfl rfl ?_
    refine fv_ladd (ft_d o_Mo_addresses 31 rfl) rfl ?_
    generalize en4 : ft_addL x4 z3 = n4
    have w := w n4 en4.symm
    refine fv_lstore (L' := [some (.inr (.inr 309)), some (.inl x1), some (.inr (.inl x2)), none, some (.inr (.inl n4)), none, some (.inl x6), some (.inr (.inl z3)), none]) (ft_d o_Mo_addresses 32 rfl) rfl (Nat.le_of_ble_eq_true rfl) rfl ?_
    refine fv_aload_n (ft_d o_Mo_addresses 33 rfl) rfl rfl ?_
    refine fv_iload (ft_d o_Mo_addresses 34 rfl) rfl rfl ?_
    refine fv_callif (st := []) (z := h1 310 (12 + 3 * x6.toNat)) (Or.inl rfl) rfl (ft_mm (pre := [.inl x6, .inr (.inr 309)]) rfl) (ft_rnV (K' := k_Mo_hopOf) (As := [.inl x6]) (ft_d o_Mo_addresses 35 rfl) ml_Mo_128 li_Mo_hopOf.1 li_Mo_hopOf.2 lw_Mo_hopOf ⟨rfl, rfl, Nat.le_of_ble_eq_true rfl, Nat.le_of_ble_eq_true rfl⟩ sh_309 rfl rfl rfl rfl (Nat.le_of_ble_eq_true rfl) (c_Mo_hopOf w.1)) ?_
    have w := w.2
    refine fv_iload_n (ft_d o_Mo_addresses 36 rfl) rfl rfl ?_
    refine fv_icmp_ne (tgt := 73) (ft_d o_Mo_addresses 37 rfl) rfl rfl (fun c => ?_) (fun c => ?_)
    · have w := w.1 c
      refine fv_iinc (L' := [some (.inr (.inr 309)), some (.inl x1), some (.inr (.inl x2)), none, some (.inr (.inl n4)), none, some (.inl (ft_add x6 1)), some (.inr (.inl z3)), none]) (ft_d o_Mo_addresses 42 rfl) rfl rfl (Nat.le_of_ble_eq_true rfl) rfl ?_
      refine fv_goto (pc' := 24) (ft_d o_Mo_addresses 43 rfl) rfl ?_
      refine fv_mask (M := [true, true, true, false, true, false, true, false, false]) rfl ?_
      exact w
    · have w := w.2 c
      refine fv_lload_n (ft_d o_Mo_addresses 38 rfl) rfl rfl ?_
      refine fv_lload (ft_d o_Mo_addresses 39 rfl) rfl rfl ?_
      refine fv_ladd (ft_d o_Mo_addresses 40 rfl) rfl ?_
      generalize en7 : ft_addL x2 z3 = n7
      have w := w n7 en7.symm
      refine fv_lstore_n (L' := [some (.inr (.inr 309)), some (.inl x1), some (.inr (.inl n7)), none, some (.inr (.inl n4)), none, some (.inl x6), some (.inr (.inl z3)), none]) (ft_d o_Mo_addresses 41 rfl) rfl (Nat.le_of_ble_eq_true rfl) rfl ?_
      refine fv_iinc (L' := [some (.inr (.inr 309)), some (.inl x1), some (.inr (.inl n7)), none, some (.inr (.inl n4)), none, some (.inl (ft_add x6 1)), some (.inr (.inl z3)), none]) (ft_d o_Mo_addresses 42 rfl) rfl rfl (Nat.le_of_ble_eq_true rfl) rfl ?_
      refine fv_goto (pc' := 24) (ft_d o_Mo_addresses 43 rfl) rfl ?_
      refine fv_mask (M := [true, true, true, false, true, false, true, false, false]) rfl ?_
      exact w
set_option maxRecDepth 20000 in
theorem b_Mo_hardwareAddresses_0  {h : ftH} {R : Option ftV → ftH → Prop} 
    (w : ft_V k_Mo_hardwareAddresses 4 [some (.inr (.inr 309)), some (.inr (.inl 0)), none, some (.inl 0)] [] h R) : ft_V k_Mo_hardwareAddresses 0 [some (.inr (.inr 309)), none, none, none] [] h R := by
  refine fv_lconst (z := 0) (ft_d o_Mo_hardwareAddresses 0 rfl) rfl rfl ?_
  refine fv_lstore_n (L' := [some (.inr (.inr 309)), some (.inr (.inl 0)), none, none]) (ft_d o_Mo_hardwareAddresses 1 rfl) rfl (Nat.le_of_ble_eq_true rfl) rfl ?_
  refine fv_iconst (ft_d o_Mo_hardwareAddresses 2 rfl) rfl rfl ?_
  refine fv_istore_n (L' := [some (.inr (.inr 309)), some (.inr (.inl 0)), none, some (.inl 0)]) (ft_d o_Mo_hardwareAddresses 3 rfl) rfl (Nat.le_of_ble_eq_true rfl) rfl ?_
  exact w
set_option maxRecDepth 20000 in
theorem b_Mo_hardwareAddresses_4 {x1 : Int} {x3 : Int} {h : ftH} {R : Option ftV → ftH → Prop} 
    (w : ((h 310 2 ≤ x3 → R (some (.inr (.inl x1))) h) ∧ (¬ (h 310 2 ≤ x3) → ((0 ≤ x3 ∧ x3 < 80) ∧ ((h 310 (272 + 3 * x3.toNat) = 16 → ft_V k_Mo_hardwareAddresses 4 [some (.inr (.inr 309)), some (.inr (.inl x1)), none, some (.inl (ft_add x3 1))] [] h R) ∧ (¬ (h 310 (272 + 3 * x3.toNat) = 16) → (∃ R3 : Option ftV → ftH → Prop, ft_C k_Mo_areaOf [.inr (.inr 309), .inl 270, .inl (h 310 2), .inl x3] h R3 ∧ ∀ (z5 : Int) (h1 : ftH), ft_inL z5 → R3 (some (.inr (.inl z5))) h1 → (∀ n6 : Int, n6 = ft_addL x1 z5 → ft_V k_Mo_hardwareAddresses 4 [some (.inr (.inr 309)), some (.inr (.inl n6)), none, some (.inl (ft_add x3 1))] [] h1 R)))))))) : ft_V k_Mo_hardwareAddresses 4 [some (.inr (.inr 309)), some (.inr (.inl x1)), none, some (.inl x3)] [] h R := by
  refine fv_iload_n (ft_d o_Mo_hardwareAddresses 4 rfl) rfl rfl ?_
  refine fv_aload_n (ft_d o_Mo_hardwareAddresses 5 rfl) rfl rfl ?_
  refine fv_getR (b := 310) (ft_d o_Mo_hardwareAddresses 6 rfl) rfl fl_Mo_13 sh_309 rfl ly_309_1 ?_
  refine fv_iconst (ft_d o_Mo_hardwareAddresses 7 rfl) rfl rfl ?_
  refine fv_ialdj (j := 2) (ft_d o_Mo_hardwareAddresses 8 rfl) rfl sh_310 ⟨by decide, by decide⟩ rfl ?_
  refine fv_icmp_ge (tgt := 47) (ft_d o_Mo_hardwareAddresses 9 rfl) rfl rfl (fun c => ?_) (fun c => ?_)
  · have w := w.1 c
    refine fv_lload_n (ft_d o_Mo_hardwareAddresses 28 rfl) rfl rfl ?_
    exact fv_lreturn (ft_d o_Mo_hardwareAddresses 29 rfl) rfl w
  · have w := w.2 c
    refine fv_aload_n (ft_d o_Mo_hardwareAddresses 10 rfl) rfl rfl ?_
    refine fv_iload_n (ft_d o_Mo_hardwareAddresses 11 rfl) rfl rfl ?_
    refine fv_callif (st := []) (z := h 310 (272 + 3 * x3.toNat)) (Or.inl rfl) rfl (ft_mm (pre := [.inl x3, .inr (.inr 309)]) rfl) (ft_rnV (K' := k_Mo_actionIn) (As := [.inl x3]) (ft_d o_Mo_hardwareAddresses 12 rfl) ml_Mo_157 li_Mo_actionIn.1 li_Mo_actionIn.2 lw_Mo_actionIn ⟨rfl, rfl, Nat.le_of_ble_eq_true rfl, Nat.le_of_ble_eq_true rfl⟩ sh_309 rfl rfl rfl rfl (Nat.le_of_ble_eq_true rfl) (c_Mo_actionIn w.1)) ?_
    have w := w.2
    refine fv_bipush (ft_d o_Mo_hardwareAddresses 13 rfl) rfl rfl ?_
    refine fv_icmp_eq (tgt := 41) (ft_d o_Mo_hardwareAddresses 14 rfl) rfl rfl (fun c => ?_) (fun c => ?_)
    · have w := w.1 c
      refine fv_iinc (L' := [some (.inr (.inr 309)), some (.inr (.inl x1)), none, some (.inl (ft_add x3 1))]) (ft_d o_Mo_hardwareAddresses 26 rfl) rfl rfl (Nat.le_of_ble_eq_true rfl) rfl ?_
      refine fv_goto (pc' := 4) (ft_d o_Mo_hardwareAddresses 27 rfl) rfl ?_
      exact w
    · have w := w.2 c
      refine fv_lload_n (ft_d o_Mo_hardwareAddresses 15 rfl) rfl rfl ?_
      refine fv_aload_n (ft_d o_Mo_hardwareAddresses 16 rfl) rfl rfl ?_
      refine fv_sipush (ft_d o_Mo_hardwareAddresses 17 rfl) rfl rfl ?_
      refine fv_aload_n (ft_d o_Mo_hardwareAddresses 18 rfl) rfl rfl ?_
      refine fv_getR (b := 310) (ft_d o_Mo_hardwareAddresses 19 rfl) rfl fl_Mo_13 sh_309 rfl ly_309_1 ?_
      refine fv_iconst (ft_d o_Mo_hardwareAddresses 20 rfl) rfl rfl ?_
      refine fv_ialdj (j := 2) (ft_d o_Mo_hardwareAddresses 21 rfl) rfl sh_310 ⟨by decide, by decide⟩ rfl ?_
      refine fv_iload_n (ft_d o_Mo_hardwareAddresses 22 rfl) rfl rfl ?_
      obtain ⟨R3, c4, w⟩ := w
      refine fv_calll (st := [.inr (.inl x1)]) rfl rfl (ft_mm (pre := [.inl x3, .inl (h 310 2), .inl 270, .inr (.inr 309)]) rfl) (ft_rnV (K' := k_Mo_areaOf) (As := [.inl 270, .inl (h 310 2), .inl x3]) (ft_d o_Mo_hardwareAddresses 23 rfl) ml_Mo_150 li_Mo_areaOf.1 li_Mo_areaOf.2 lw_Mo_areaOf ⟨rfl, rfl, Nat.le_of_ble_eq_true rfl, Nat.le_of_ble_eq_true rfl⟩ sh_309 rfl rfl rfl rfl (Nat.le_of_ble_eq_true rfl) c4) (fun z5 h1 hz hw => ?_)
      have w := w z5 h1 hz hw
      refine fv_ladd (ft_d o_Mo_hardwareAddresses 24 rfl) rfl ?_
      generalize en6 : ft_addL x1 z5 = n6
      have w := w n6 en6.symm
      refine fv_lstore_n (L' := [some (.inr (.inr 309)), some (.inr (.inl n6)), none, some (.inl x3)]) (ft_d o_Mo_hardwareAddresses 25 rfl) rfl (Nat.le_of_ble_eq_true rfl) rfl ?_
      refine fv_iinc (L' := [some (.inr (.inr 309)), some (.inr (.inl n6)), none, some (.inl (ft_add x3 1))]) (ft_d o_Mo_hardwareAddresses 26 rfl) rfl rfl (Nat.le_of_ble_eq_true rfl) rfl ?_
      refine fv_goto (pc' := 4) (ft_d o_Mo_hardwareAddresses 27 rfl) rfl ?_
      exact w
set_option maxRecDepth 20000 in
theorem b_Mo_edgeAbove_0 {x1 : Int} {h : ftH} {R : Option ftV → ftH → Prop} 
    (w : ft_V k_Mo_edgeAbove 7 [some (.inr (.inr 309)), some (.inr (.inl x1)), none, some (.inr (.inl 4294967296)), none, some (.inl 0), none, none, none, none] [] h R) : ft_V k_Mo_edgeAbove 0 [some (.inr (.inr 309)), some (.inr (.inl x1)), none, none, none, none, none, none, none, none] [] h R := by
  refine fv_ldc2 (v := 4294967296) (z := 4294967296) (ft_d o_Mo_edgeAbove 0 rfl) rfl (ft_gt 1564 (by decide +kernel) rfl) rfl ?_
  refine fv_lstore_n (L' := [some (.inr (.inr 309)), some (.inr (.inl x1)), none, some (.inr (.inl 4294967296)), none, none, none, none, none, none]) (ft_d o_Mo_edgeAbove 1 rfl) rfl (Nat.le_of_ble_eq_true rfl) rfl ?_
  refine fv_iconst (ft_d o_Mo_edgeAbove 2 rfl) rfl rfl ?_
  refine fv_istore (L' := [some (.inr (.inr 309)), some (.inr (.inl x1)), none, some (.inr (.inl 4294967296)), none, some (.inl 0), none, none, none, none]) (ft_d o_Mo_edgeAbove 3 rfl) rfl (Nat.le_of_ble_eq_true rfl) rfl ?_
  exact w
set_option maxRecDepth 20000 in
theorem b_Mo_edgeAbove_7 {x1 : Int} {x3 : Int} {x5 : Int} {h : ftH} {R : Option ftV → ftH → Prop} 
    (w : ((h 310 0 ≤ x5 → R (some (.inr (.inl x3))) h) ∧ (¬ (h 310 0 ≤ x5) → ((0 ≤ x5 ∧ x5 < 60) ∧ (∀ n5 : Int, n5 = pUn (h 310 (10 + 3 * x5.toNat)) → ((0 ≤ x5 ∧ x5 < 60) ∧ ((0 ≤ (h 310 (11 + 3 * x5.toNat)) ∧ (h 310 (11 + 3 * x5.toNat)) ≤ 32) ∧ (∀ n10 : Int, n10 = ft_addL n5 (pSz (h 310 (11 + 3 * x5.toNat))) → ((n5 ≤ x1 → ((n10 ≤ x1 → ft_V k_Mo_edgeAbove 7 [some (.inr (.inr 309)), some (.inr (.inl x1)), none, some (.inr (.inl x3)), none, some (.inl (ft_add x5 1)), none, none, none, none] [] h R) ∧ (¬ (n10 ≤ x1) → ((x3 ≤ n10 → ft_V k_Mo_edgeAbove 7 [some (.inr (.inr 309)), some (.inr (.inl x1)), none, some (.inr (.inl x3)), none, some (.inl (ft_add x5 1)), none, none, none, none] [] h R) ∧ (¬ (x3 ≤ n10) → ft_V k_Mo_edgeAbove 7 [some (.inr (.inr 309)), some (.inr (.inl x1)), none, some (.inr (.inl n10)), none, some (.inl (ft_add x5 1)), none, none, none, none] [] h R))))) ∧ (¬ (n5 ≤ x1) → ((x3 ≤ n5 → ((n10 ≤ x1 → ft_V k_Mo_edgeAbove 7 [some (.inr (.inr 309)), some (.inr (.inl x1)), none, some (.inr (.inl x3)), none, some (.inl (ft_add x5 1)), none, none, none, none] [] h R) ∧ (¬ (n10 ≤ x1) → ((x3 ≤ n10 → ft_V k_Mo_edgeAbove 7 [some (.inr (.inr 309)), some (.inr (.inl x1)), none, some (.inr (.inl x3)), none, some (.inl (ft_add x5 1)), none, none, none, none] [] h R) ∧ (¬ (x3 ≤ n10) → ft_V k_Mo_edgeAbove 7 [some (.inr (.inr 309)), some (.inr (.inl x1)), none, some (.inr (.inl n10)), none, some (.inl (ft_add x5 1)), none, none, none, none] [] h R))))) ∧ (¬ (x3 ≤ n5) → ((n10 ≤ x1 → ft_V k_Mo_edgeAbove 7 [some (.inr (.inr 309)), some (.inr (.inl x1)), none, some (.inr (.inl n5)), none, some (.inl (ft_add x5 1)), none, none, none, none] [] h R) ∧ (¬ (n10 ≤ x1) → ((n5 ≤ n10 → ft_V k_Mo_edgeAbove 7 [some (.inr (.inr 309)), some (.inr (.inl x1)), none, some (.inr (.inl n5)), none, some (.inl (ft_add x5 1)), none, none, none, none] [] h R) ∧ (¬ (n5 ≤ n10) → ft_V k_Mo_edgeAbove 7 [some (.inr (.inr 309)), some (.inr (.inl x1)), none, some (.inr (.inl n10)), none, some (.inl (ft_add x5 1)), none, none, none, none] [] h R)))))))))))))))) : ft_V k_Mo_edgeAbove 7 [some (.inr (.inr 309)), some (.inr (.inl x1)), none, some (.inr (.inl x3)), none, some (.inl x5), none, none, none, none] [] h R := by
  refine fv_iload (ft_d o_Mo_edgeAbove 4 rfl) rfl rfl ?_
  refine fv_aload_n (ft_d o_Mo_edgeAbove 5 rfl) rfl rfl ?_
  refine fv_getR (b := 310) (ft_d o_Mo_edgeAbove 6 rfl) rfl fl_Mo_13 sh_309 rfl ly_309_1 ?_
  refine fv_iconst (ft_d o_Mo_edgeAbove 7 rfl) rfl rfl ?_
  refine fv_ialdj (j := 0) (ft_d o_Mo_edgeAbove 8 rfl) rfl sh_310 ⟨by decide, by decide⟩ rfl ?_
  refine fv_icmp_ge (tgt := 83) (ft_d o_Mo_edgeAbove 9 rfl) rfl rfl (fun c => ?_) (fun c => ?_)
  · have w := w.1 c
    refine fv_lload_n (ft_d o_Mo_edgeAbove 44 rfl) rfl rfl ?_
    exact fv_lreturn (ft_d o_Mo_edgeAbove 45 rfl) rfl w
  · have w := w.2 c
    refine fv_aload_n (ft_d o_Mo_edgeAbove 10 rfl) rfl rfl ?_
    refine fv_iload (ft_d o_Mo_edgeAbove 11 rfl) rfl rfl ?_
    refine fv_callif (st := []) (z := h 310 (10 + 3 * x5.toNat)) (Or.inl rfl) rfl (ft_mm (pre := [.inl x5, .inr (.inr 309)]) rfl) (ft_rnV (K' := k_Mo_valueOf) (As := [.inl x5]) (ft_d o_Mo_edgeAbove 12 rfl) ml_Mo_131 li_Mo_valueOf.1 li_Mo_valueOf.2 lw_Mo_valueOf ⟨rfl, rfl, Nat.le_of_ble_eq_true rfl, Nat.le_of_ble_eq_true rfl⟩ sh_309 rfl rfl rfl rfl (Nat.le_of_ble_eq_true rfl) (c_Mo_valueOf w.1)) ?_
    have w := w.2
    refine fv_calllf (st := []) (z := pUn (h 310 (10 + 3 * x5.toNat))) rfl rfl (ft_mm (pre := [.inl (h 310 (10 + 3 * x5.toNat))]) rfl) (ft_rnS (K' := k_Mo_unsigned) (As := [.inl (h 310 (10 + 3 * x5.toNat))]) (ft_d o_Mo_edgeAbove 13 rfl) ml_Mo_100 lz_Mo_unsigned rfl lw_Mo_unsigned ⟨rfl, rfl, Nat.le_of_ble_eq_true rfl, Nat.le_of_ble_eq_true rfl⟩ rfl rfl (Nat.le_of_ble_eq_true rfl) (c_Mo_unsigned)) ?_
    generalize en5 : pUn (h 310 (10 + 3 * x5.toNat)) = n5
    have w := w n5 en5.symm
    refine fv_lstore (L' := [some (.inr (.inr 309)), some (.inr (.inl x1)), none, some (.inr (.inl x3)), none, some (.inl x5), some (.inr (.inl n5)), none, none, none]) (ft_d o_Mo_edgeAbove 14 rfl) rfl (Nat.le_of_ble_eq_true rfl) rfl ?_
    refine fv_lload (ft_d o_Mo_edgeAbove 15 rfl) rfl rfl ?_
    refine fv_aload_n (ft_d o_Mo_edgeAbove 16 rfl) rfl rfl ?_
    refine fv_iload (ft_d o_Mo_edgeAbove 17 rfl) rfl rfl ?_
    refine fv_callif (st := [.inr (.inl n5)]) (z := h 310 (11 + 3 * x5.toNat)) (Or.inl rfl) rfl (ft_mm (pre := [.inl x5, .inr (.inr 309)]) rfl) (ft_rnV (K' := k_Mo_lengthOf) (As := [.inl x5]) (ft_d o_Mo_edgeAbove 18 rfl) ml_Mo_134 li_Mo_lengthOf.1 li_Mo_lengthOf.2 lw_Mo_lengthOf ⟨rfl, rfl, Nat.le_of_ble_eq_true rfl, Nat.le_of_ble_eq_true rfl⟩ sh_309 rfl rfl rfl rfl (Nat.le_of_ble_eq_true rfl) (c_Mo_lengthOf w.1)) ?_
    have w := w.2
    refine fv_calllf (st := [.inr (.inl n5)]) (z := pSz (h 310 (11 + 3 * x5.toNat))) rfl rfl (ft_mm (pre := [.inl (h 310 (11 + 3 * x5.toNat))]) rfl) (ft_rnS (K' := k_Mo_sizeOf) (As := [.inl (h 310 (11 + 3 * x5.toNat))]) (ft_d o_Mo_edgeAbove 19 rfl) ml_Mo_118 lz_Mo_sizeOf rfl lw_Mo_sizeOf ⟨rfl, rfl, Nat.le_of_ble_eq_true rfl, Nat.le_of_ble_eq_true rfl⟩ rfl rfl (Nat.le_of_ble_eq_true rfl) (c_Mo_sizeOf w.1)) ?_
    have w := w.2
    refine fv_ladd (ft_d o_Mo_edgeAbove 20 rfl) rfl ?_
    generalize en10 : ft_addL n5 (pSz (h 310 (11 + 3 * x5.toNat))) = n10
    have w := w n10 en10.symm
    refine fv_lstore (L' := [some (.inr (.inr 309)), some (.inr (.inl x1)), none, some (.inr (.inl x3)), none, some (.inl x5), some (.inr (.inl n5)), none, some (.inr (.inl n10)), none]) (ft_d o_Mo_edgeAbove 21 rfl) rfl (Nat.le_of_ble_eq_true rfl) rfl ?_
    refine fv_lload (ft_d o_Mo_edgeAbove 22 rfl) rfl rfl ?_
    refine fv_lload_n (ft_d o_Mo_edgeAbove 23 rfl) rfl rfl ?_
    refine fv_lcmp_le (tgt := 60) (ft_d o_Mo_edgeAbove 24 rfl) (ft_d o_Mo_edgeAbove 25 rfl) rfl rfl (fun c => ?_) (fun c => ?_)
    · have w := w.1 c
      refine fv_lload (ft_d o_Mo_edgeAbove 32 rfl) rfl rfl ?_
      refine fv_lload_n (ft_d o_Mo_edgeAbove 33 rfl) rfl rfl ?_
      refine fv_lcmp_le (tgt := 77) (ft_d o_Mo_edgeAbove 34 rfl) (ft_d o_Mo_edgeAbove 35 rfl) rfl rfl (fun c => ?_) (fun c => ?_)
      · have w := w.1 c
        refine fv_iinc (L' := [some (.inr (.inr 309)), some (.inr (.inl x1)), none, some (.inr (.inl x3)), none, some (.inl (ft_add x5 1)), some (.inr (.inl n5)), none, some (.inr (.inl n10)), none]) (ft_d o_Mo_edgeAbove 42 rfl) rfl rfl (Nat.le_of_ble_eq_true rfl) rfl ?_
        refine fv_goto (pc' := 7) (ft_d o_Mo_edgeAbove 43 rfl) rfl ?_
        refine fv_mask (M := [true, true, false, true, false, true, false, false, false, false]) rfl ?_
        exact w
      · have w := w.2 c
        refine fv_lload (ft_d o_Mo_edgeAbove 36 rfl) rfl rfl ?_
        refine fv_lload_n (ft_d o_Mo_edgeAbove 37 rfl) rfl rfl ?_
        refine fv_lcmp_ge (tgt := 77) (ft_d o_Mo_edgeAbove 38 rfl) (ft_d o_Mo_edgeAbove 39 rfl) rfl rfl (fun c => ?_) (fun c => ?_)
        · have w := w.1 c
          refine fv_iinc (L' := [some (.inr (.inr 309)), some (.inr (.inl x1)), none, some (.inr (.inl x3)), none, some (.inl (ft_add x5 1)), some (.inr (.inl n5)), none, some (.inr (.inl n10)), none]) (ft_d o_Mo_edgeAbove 42 rfl) rfl rfl (Nat.le_of_ble_eq_true rfl) rfl ?_
          refine fv_goto (pc' := 7) (ft_d o_Mo_edgeAbove 43 rfl) rfl ?_
          refine fv_mask (M := [true, true, false, true, false, true, false, false, false, false]) rfl ?_
          exact w
        · have w := w.2 c
          refine fv_lload (ft_d o_Mo_edgeAbove 40 rfl) rfl rfl ?_
          refine fv_lstore_n (L' := [some (.inr (.inr 309)), some (.inr (.inl x1)), none, some (.inr (.inl n10)), none, some (.inl x5), some (.inr (.inl n5)), none, some (.inr (.inl n10)), none]) (ft_d o_Mo_edgeAbove 41 rfl) rfl (Nat.le_of_ble_eq_true rfl) rfl ?_
          refine fv_iinc (L' := [some (.inr (.inr 309)), some (.inr (.inl x1)), none, some (.inr (.inl n10)), none, some (.inl (ft_add x5 1)), some (.inr (.inl n5)), none, some (.inr (.inl n10)), none]) (ft_d o_Mo_edgeAbove 42 rfl) rfl rfl (Nat.le_of_ble_eq_true rfl) rfl ?_
          refine fv_goto (pc' := 7) (ft_d o_Mo_edgeAbove 43 rfl) rfl ?_
          refine fv_mask (M := [true, true, false, true, false, true, false, false, false, false]) rfl ?_
          exact w
    · have w := w.2 c
      refine fv_lload (ft_d o_Mo_edgeAbove 26 rfl) rfl rfl ?_
      refine fv_lload_n (ft_d o_Mo_edgeAbove 27 rfl) rfl rfl ?_
      refine fv_lcmp_ge (tgt := 60) (ft_d o_Mo_edgeAbove 28 rfl) (ft_d o_Mo_edgeAbove 29 rfl) rfl rfl (fun c => ?_) (fun c => ?_)
      · have w := w.1 c
        refine fv_lload (ft_d o_Mo_edgeAbove 32 rfl) rfl rfl ?_
        refine fv_lload_n (ft_d o_Mo_edgeAbove 33 rfl) rfl rfl ?_
        refine fv_lcmp_le (tgt := 77) (ft_d o_Mo_edgeAbove 34 rfl) (ft_d o_Mo_edgeAbove 35 rfl) rfl rfl (fun c => ?_) (fun c => ?_)
        · have w := w.1 c
          refine fv_iinc (L' := [some (.inr (.inr 309)), some (.inr (.inl x1)), none, some (.inr (.inl x3)), none, some (.inl (ft_add x5 1)), some (.inr (.inl n5)), none, some (.inr (.inl n10)), none]) (ft_d o_Mo_edgeAbove 42 rfl) rfl rfl (Nat.le_of_ble_eq_true rfl) rfl ?_
          refine fv_goto (pc' := 7) (ft_d o_Mo_edgeAbove 43 rfl) rfl ?_
          refine fv_mask (M := [true, true, false, true, false, true, false, false, false, false]) rfl ?_
          exact w
        · have w := w.2 c
          refine fv_lload (ft_d o_Mo_edgeAbove 36 rfl) rfl rfl ?_
          refine fv_lload_n (ft_d o_Mo_edgeAbove 37 rfl) rfl rfl ?_
          refine fv_lcmp_ge (tgt := 77) (ft_d o_Mo_edgeAbove 38 rfl) (ft_d o_Mo_edgeAbove 39 rfl) rfl rfl (fun c => ?_) (fun c => ?_)
          · have w := w.1 c
            refine fv_iinc (L' := [some (.inr (.inr 309)), some (.inr (.inl x1)), none, some (.inr (.inl x3)), none, some (.inl (ft_add x5 1)), some (.inr (.inl n5)), none, some (.inr (.inl n10)), none]) (ft_d o_Mo_edgeAbove 42 rfl) rfl rfl (Nat.le_of_ble_eq_true rfl) rfl ?_
            refine fv_goto (pc' := 7) (ft_d o_Mo_edgeAbove 43 rfl) rfl ?_
            refine fv_mask (M := [true, true, false, true, false, true, false, false, false, false]) rfl ?_
            exact w
          · have w := w.2 c
            refine fv_lload (ft_d o_Mo_edgeAbove 40 rfl) rfl rfl ?_
            refine fv_lstore_n (L' := [some (.inr (.inr 309)), some (.inr (.inl x1)), none, some (.inr (.inl n10)), none, some (.inl x5), some (.inr (.inl n5)), none, some (.inr (.inl n10)), none]) (ft_d o_Mo_edgeAbove 41 rfl) rfl (Nat.le_of_ble_eq_true rfl) rfl ?_
            refine fv_iinc (L' := [some (.inr (.inr 309)), some (.inr (.inl x1)), none, some (.inr (.inl n10)), none, some (.inl (ft_add x5 1)), some (.inr (.inl n5)), none, some (.inr (.inl n10)), none]) (ft_d o_Mo_edgeAbove 42 rfl) rfl rfl (Nat.le_of_ble_eq_true rfl) rfl ?_
            refine fv_goto (pc' := 7) (ft_d o_Mo_edgeAbove 43 rfl) rfl ?_
            refine fv_mask (M := [true, true, false, true, false, true, false, false, false, false]) rfl ?_
            exact w
      · have w := w.2 c
        refine fv_lload (ft_d o_Mo_edgeAbove 30 rfl) rfl rfl ?_
        refine fv_lstore_n (L' := [some (.inr (.inr 309)), some (.inr (.inl x1)), none, some (.inr (.inl n5)), none, some (.inl x5), some (.inr (.inl n5)), none, some (.inr (.inl n10)), none]) (ft_d o_Mo_edgeAbove 31 rfl) rfl (Nat.le_of_ble_eq_true rfl) rfl ?_
        refine fv_lload (ft_d o_Mo_edgeAbove 32 rfl) rfl rfl ?_
        refine fv_lload_n (ft_d o_Mo_edgeAbove 33 rfl) rfl rfl ?_
        refine fv_lcmp_le (tgt := 77) (ft_d o_Mo_edgeAbove 34 rfl) (ft_d o_Mo_edgeAbove 35 rfl) rfl rfl (fun c => ?_) (fun c => ?_)
        · have w := w.1 c
          refine fv_iinc (L' := [some (.inr (.inr 309)), some (.inr (.inl x1)), none, some (.inr (.inl n5)), none, some (.inl (ft_add x5 1)), some (.inr (.inl n5)), none, some (.inr (.inl n10)), none]) (ft_d o_Mo_edgeAbove 42 rfl) rfl rfl (Nat.le_of_ble_eq_true rfl) rfl ?_
          refine fv_goto (pc' := 7) (ft_d o_Mo_edgeAbove 43 rfl) rfl ?_
          refine fv_mask (M := [true, true, false, true, false, true, false, false, false, false]) rfl ?_
          exact w
        · have w := w.2 c
          refine fv_lload (ft_d o_Mo_edgeAbove 36 rfl) rfl rfl ?_
          refine fv_lload_n (ft_d o_Mo_edgeAbove 37 rfl) rfl rfl ?_
          refine fv_lcmp_ge (tgt := 77) (ft_d o_Mo_edgeAbove 38 rfl) (ft_d o_Mo_edgeAbove 39 rfl) rfl rfl (fun c => ?_) (fun c => ?_)
          · have w := w.1 c
            refine fv_iinc (L' := [some (.inr (.inr 309)), some (.inr (.inl x1)), none, some (.inr (.inl n5)), none, some (.inl (ft_add x5 1)), some (.inr (.inl n5)), none, some (.inr (.inl n10)), none]) (ft_d o_Mo_edgeAbove 42 rfl) rfl rfl (Nat.le_of_ble_eq_true rfl) rfl ?_
            refine fv_goto (pc' := 7) (ft_d o_Mo_edgeAbove 43 rfl) rfl ?_
            refine fv_mask (M := [true, true, false, true, false, true, false, false, false, false]) rfl ?_
            exact w
          · have w := w.2 c
            refine fv_lload (ft_d o_Mo_edgeAbove 40 rfl) rfl rfl ?_
            refine fv_lstore_n (L' := [some (.inr (.inr 309)), some (.inr (.inl x1)), none, some (.inr (.inl n10)), none, some (.inl x5), some (.inr (.inl n5)), none, some (.inr (.inl n10)), none]) (ft_d o_Mo_edgeAbove 41 rfl) rfl (Nat.le_of_ble_eq_true rfl) rfl ?_
            refine fv_iinc (L' := [some (.inr (.inr 309)), some (.inr (.inl x1)), none, some (.inr (.inl n10)), none, some (.inl (ft_add x5 1)), some (.inr (.inl n5)), none, some (.inr (.inl n10)), none]) (ft_d o_Mo_edgeAbove 42 rfl) rfl rfl (Nat.le_of_ble_eq_true rfl) rfl ?_
            refine fv_goto (pc' := 7) (ft_d o_Mo_edgeAbove 43 rfl) rfl ?_
            refine fv_mask (M := [true, true, false, true, false, true, false, false, false, false]) rfl ?_
            exact w
set_option maxRecDepth 20000 in
theorem b_Mo_nextOther_0 {x1 : Int} {h : ftH} {R : Option ftV → ftH → Prop} 
    (w : (∃ R1 : Option ftV → ftH → Prop, ft_C k_Mo_answers [.inr (.inr 309), .inl x1] h R1 ∧ ∀ (z3 : Int) (h1 : ftH), ft_in z3 → R1 (some (.inl z3)) h1 → (∃ R6 : Option ftV → ftH → Prop, ft_C k_Mo_edgeAbove [.inr (.inr 309), .inr (.inl (pUn x1))] h1 R6 ∧ ∀ (z8 : Int) (h2 : ftH), ft_inL z8 → R6 (some (.inr (.inl z8))) h2 → ft_V k_Mo_nextOther 15 [some (.inr (.inr 309)), none, some (.inl z3), some (.inr (.inl z8)), none] [] h2 R))) : ft_V k_Mo_nextOther 0 [some (.inr (.inr 309)), some (.inl x1), none, none, none] [] h R := by
  refine fv_aload_n (ft_d o_Mo_nextOther 0 rfl) rfl rfl ?_
  refine fv_iload_n (ft_d o_Mo_nextOther 1 rfl) rfl rfl ?_
  obtain ⟨R1, c2, w⟩ := w
  refine fv_calli (st := []) (Or.inl rfl) rfl (ft_mm (pre := [.inl x1, .inr (.inr 309)]) rfl) (ft_rnV (K' := k_Mo_answers) (As := [.inl x1]) (ft_d o_Mo_nextOther 2 rfl) ml_Mo_154 li_Mo_answers.1 li_Mo_answers.2 lw_Mo_answers ⟨rfl, rfl, Nat.le_of_ble_eq_true rfl, Nat.le_of_ble_eq_true rfl⟩ sh_309 rfl rfl rfl rfl (Nat.le_of_ble_eq_true rfl) c2) (fun z3 h1 hz hw => ?_)
  have w := w z3 h1 hz hw
  refine fv_istore_n (L' := [some (.inr (.inr 309)), some (.inl x1), some (.inl z3), none, none]) (ft_d o_Mo_nextOther 3 rfl) rfl (Nat.le_of_ble_eq_true rfl) rfl ?_
  refine fv_aload_n (ft_d o_Mo_nextOther 4 rfl) rfl rfl ?_
  refine fv_iload_n (ft_d o_Mo_nextOther 5 rfl) rfl rfl ?_
  refine fv_calllf (st := [.inr (.inr 309)]) (z := pUn x1) rfl rfl (ft_mm (pre := [.inl x1]) rfl) (ft_rnS (K' := k_Mo_unsigned) (As := [.inl x1]) (ft_d o_Mo_nextOther 6 rfl) ml_Mo_100 lz_Mo_unsigned rfl lw_Mo_unsigned ⟨rfl, rfl, Nat.le_of_ble_eq_true rfl, Nat.le_of_ble_eq_true rfl⟩ rfl rfl (Nat.le_of_ble_eq_true rfl) (c_Mo_unsigned)) ?_
  obtain ⟨R6, c7, w⟩ := w
  refine fv_calll (st := []) rfl rfl (ft_mm (pre := [.inr (.inl (pUn x1)), .inr (.inr 309)]) rfl) (ft_rnV (K' := k_Mo_edgeAbove) (As := [.inr (.inl (pUn x1))]) (ft_d o_Mo_nextOther 7 rfl) ml_Mo_348 li_Mo_edgeAbove.1 li_Mo_edgeAbove.2 lw_Mo_edgeAbove ⟨rfl, rfl, Nat.le_of_ble_eq_true rfl, Nat.le_of_ble_eq_true rfl⟩ sh_309 rfl rfl rfl rfl (Nat.le_of_ble_eq_true rfl) c7) (fun z8 h2 hz hw => ?_)
  have w := w z8 h2 hz hw
  refine fv_lstore_n (L' := [some (.inr (.inr 309)), some (.inl x1), some (.inl z3), some (.inr (.inl z8)), none]) (ft_d o_Mo_nextOther 8 rfl) rfl (Nat.le_of_ble_eq_true rfl) rfl ?_
  refine fv_mask (M := [true, false, true, true, false]) rfl ?_
  exact w
set_option maxRecDepth 20000 in
theorem b_Mo_nextOther_15 {x2 : Int} {x3 : Int} {h : ftH} {R : Option ftV → ftH → Prop} 
    (w : ((4294967296 ≤ x3 → ((4294967296 ≤ x3 → R (some (.inr (.inl ((-2))))) h) ∧ (¬ (4294967296 ≤ x3) → R (some (.inr (.inl x3))) h))) ∧ (¬ (4294967296 ≤ x3) → (∃ R1 : Option ftV → ftH → Prop, ft_C k_Mo_answers [.inr (.inr 309), .inl (ft_l2i x3)] h R1 ∧ ∀ (z3 : Int) (h1 : ftH), ft_in z3 → R1 (some (.inl z3)) h1 → ((¬ (z3 = x2) → ((4294967296 ≤ x3 → R (some (.inr (.inl ((-2))))) h1) ∧ (¬ (4294967296 ≤ x3) → R (some (.inr (.inl x3))) h1))) ∧ (z3 = x2 → (∃ R4 : Option ftV → ftH → Prop, ft_C k_Mo_edgeAbove [.inr (.inr 309), .inr (.inl x3)] h1 R4 ∧ ∀ (z6 : Int) (h2 : ftH), ft_inL z6 → R4 (some (.inr (.inl z6))) h2 → ft_V k_Mo_nextOther 15 [some (.inr (.inr 309)), none, some (.inl x2), some (.inr (.inl z6)), none] [] h2 R))))))) : ft_V k_Mo_nextOther 15 [some (.inr (.inr 309)), none, some (.inl x2), some (.inr (.inl x3)), none] [] h R := by
  refine fv_lload_n (ft_d o_Mo_nextOther 9 rfl) rfl rfl ?_
  refine fv_ldc2 (v := 4294967296) (z := 4294967296) (ft_d o_Mo_nextOther 10 rfl) rfl (ft_gt 1564 (by decide +kernel) rfl) rfl ?_
  refine fv_lcmp_ge (tgt := 42) (ft_d o_Mo_nextOther 11 rfl) (ft_d o_Mo_nextOther 12 rfl) rfl rfl (fun c => ?_) (fun c => ?_)
  · have w := w.1 c
    refine fv_lload_n (ft_d o_Mo_nextOther 24 rfl) rfl rfl ?_
    refine fv_ldc2 (v := 4294967296) (z := 4294967296) (ft_d o_Mo_nextOther 25 rfl) rfl (ft_gt 1564 (by decide +kernel) rfl) rfl ?_
    refine fv_lcmp_ge (tgt := 54) (ft_d o_Mo_nextOther 26 rfl) (ft_d o_Mo_nextOther 27 rfl) rfl rfl (fun c => ?_) (fun c => ?_)
    · have w := w.1 c
      refine fv_ldc2 (v := (-2)) (z := (-2)) (ft_d o_Mo_nextOther 30 rfl) rfl (ft_gt 1207 (by decide +kernel) rfl) rfl ?_
      exact fv_lreturn (ft_d o_Mo_nextOther 31 rfl) rfl w
    · have w := w.2 c
      refine fv_lload_n (ft_d o_Mo_nextOther 28 rfl) rfl rfl ?_
      refine fv_goto (pc' := 57) (ft_d o_Mo_nextOther 29 rfl) rfl ?_
      exact fv_lreturn (ft_d o_Mo_nextOther 31 rfl) rfl w
  · have w := w.2 c
    refine fv_aload_n (ft_d o_Mo_nextOther 13 rfl) rfl rfl ?_
    refine fv_lload_n (ft_d o_Mo_nextOther 14 rfl) rfl rfl ?_
    refine fv_l2i (ft_d o_Mo_nextOther 15 rfl) rfl ?_
    obtain ⟨R1, c2, w⟩ := w
    refine fv_calli (st := []) (Or.inl rfl) rfl (ft_mm (pre := [.inl (ft_l2i x3), .inr (.inr 309)]) rfl) (ft_rnV (K' := k_Mo_answers) (As := [.inl (ft_l2i x3)]) (ft_d o_Mo_nextOther 16 rfl) ml_Mo_154 li_Mo_answers.1 li_Mo_answers.2 lw_Mo_answers ⟨rfl, rfl, Nat.le_of_ble_eq_true rfl, Nat.le_of_ble_eq_true rfl⟩ sh_309 rfl rfl rfl rfl (Nat.le_of_ble_eq_true rfl) c2) (fun z3 h1 hz hw => ?_)
    have w := w z3 h1 hz hw
    refine fv_iload_n (ft_d o_Mo_nextOther 17 rfl) rfl rfl ?_
    refine fv_icmp_ne (tgt := 42) (ft_d o_Mo_nextOther 18 rfl) rfl rfl (fun c => ?_) (fun c => ?_)
    · have w := w.1 c
      refine fv_lload_n (ft_d o_Mo_nextOther 24 rfl) rfl rfl ?_
      refine fv_ldc2 (v := 4294967296) (z := 4294967296) (ft_d o_Mo_nextOther 25 rfl) rfl (ft_gt 1564 (by decide +kernel) rfl) rfl ?_
      refine fv_lcmp_ge (tgt := 54) (ft_d o_Mo_nextOther 26 rfl) (ft_d o_Mo_nextOther 27 rfl) rfl rfl (fun c => ?_) (fun c => ?_)
      · have w := w.1 c
        refine fv_ldc2 (v := (-2)) (z := (-2)) (ft_d o_Mo_nextOther 30 rfl) rfl (ft_gt 1207 (by decide +kernel) rfl) rfl ?_
        exact fv_lreturn (ft_d o_Mo_nextOther 31 rfl) rfl w
      · have w := w.2 c
        refine fv_lload_n (ft_d o_Mo_nextOther 28 rfl) rfl rfl ?_
        refine fv_goto (pc' := 57) (ft_d o_Mo_nextOther 29 rfl) rfl ?_
        exact fv_lreturn (ft_d o_Mo_nextOther 31 rfl) rfl w
    · have w := w.2 c
      refine fv_aload_n (ft_d o_Mo_nextOther 19 rfl) rfl rfl ?_
      refine fv_lload_n (ft_d o_Mo_nextOther 20 rfl) rfl rfl ?_
      obtain ⟨R4, c5, w⟩ := w
      refine fv_calll (st := []) rfl rfl (ft_mm (pre := [.inr (.inl x3), .inr (.inr 309)]) rfl) (ft_rnV (K' := k_Mo_edgeAbove) (As := [.inr (.inl x3)]) (ft_d o_Mo_nextOther 21 rfl) ml_Mo_348 li_Mo_edgeAbove.1 li_Mo_edgeAbove.2 lw_Mo_edgeAbove ⟨rfl, rfl, Nat.le_of_ble_eq_true rfl, Nat.le_of_ble_eq_true rfl⟩ sh_309 rfl rfl rfl rfl (Nat.le_of_ble_eq_true rfl) c5) (fun z6 h2 hz hw => ?_)
      have w := w z6 h2 hz hw
      refine fv_lstore_n (L' := [some (.inr (.inr 309)), none, some (.inl x2), some (.inr (.inl z6)), none]) (ft_d o_Mo_nextOther 22 rfl) rfl (Nat.le_of_ble_eq_true rfl) rfl ?_
      refine fv_goto (pc' := 15) (ft_d o_Mo_nextOther 23 rfl) rfl ?_
      exact w
set_option maxRecDepth 20000 in
theorem b_Mo_runs_0  {h : ftH} {R : Option ftV → ftH → Prop} 
    (w : (∃ R1 : Option ftV → ftH → Prop, ft_C k_Mo_edgeAbove [.inr (.inr 309), .inr (.inl 0)] h R1 ∧ ∀ (z3 : Int) (h1 : ftH), ft_inL z3 → R1 (some (.inr (.inl z3))) h1 → ft_V k_Mo_runs 8 [some (.inr (.inr 309)), some (.inl 1), some (.inr (.inl z3)), none] [] h1 R)) : ft_V k_Mo_runs 0 [some (.inr (.inr 309)), none, none, none] [] h R := by
  refine fv_iconst (ft_d o_Mo_runs 0 rfl) rfl rfl ?_
  refine fv_istore_n (L' := [some (.inr (.inr 309)), some (.inl 1), none, none]) (ft_d o_Mo_runs 1 rfl) rfl (Nat.le_of_ble_eq_true rfl) rfl ?_
  refine fv_aload_n (ft_d o_Mo_runs 2 rfl) rfl rfl ?_
  refine fv_lconst (z := 0) (ft_d o_Mo_runs 3 rfl) rfl rfl ?_
  obtain ⟨R1, c2, w⟩ := w
  refine fv_calll (st := []) rfl rfl (ft_mm (pre := [.inr (.inl 0), .inr (.inr 309)]) rfl) (ft_rnV (K' := k_Mo_edgeAbove) (As := [.inr (.inl 0)]) (ft_d o_Mo_runs 4 rfl) ml_Mo_348 li_Mo_edgeAbove.1 li_Mo_edgeAbove.2 lw_Mo_edgeAbove ⟨rfl, rfl, Nat.le_of_ble_eq_true rfl, Nat.le_of_ble_eq_true rfl⟩ sh_309 rfl rfl rfl rfl (Nat.le_of_ble_eq_true rfl) c2) (fun z3 h1 hz hw => ?_)
  have w := w z3 h1 hz hw
  refine fv_lstore_n (L' := [some (.inr (.inr 309)), some (.inl 1), some (.inr (.inl z3)), none]) (ft_d o_Mo_runs 5 rfl) rfl (Nat.le_of_ble_eq_true rfl) rfl ?_
  exact w
set_option maxRecDepth 20000 in
theorem b_Mo_runs_8 {x1 : Int} {x2 : Int} {h : ftH} {R : Option ftV → ftH → Prop} 
    (w : ((4294967296 ≤ x2 → R (some (.inl x1)) h) ∧ (¬ (4294967296 ≤ x2) → (∃ R1 : Option ftV → ftH → Prop, ft_C k_Mo_answers [.inr (.inr 309), .inl (ft_l2i x2)] h R1 ∧ ∀ (z3 : Int) (h1 : ftH), ft_in z3 → R1 (some (.inl z3)) h1 → (∃ R4 : Option ftV → ftH → Prop, ft_C k_Mo_answers [.inr (.inr 309), .inl (ft_l2i (ft_subL x2 1))] h1 R4 ∧ ∀ (z6 : Int) (h2 : ftH), ft_in z6 → R4 (some (.inl z6)) h2 → ((z3 = z6 → (∃ R7 : Option ftV → ftH → Prop, ft_C k_Mo_edgeAbove [.inr (.inr 309), .inr (.inl x2)] h2 R7 ∧ ∀ (z9 : Int) (h3 : ftH), ft_inL z9 → R7 (some (.inr (.inl z9))) h3 → ft_V k_Mo_runs 8 [some (.inr (.inr 309)), some (.inl x1), some (.inr (.inl z9)), none] [] h3 R)) ∧ (¬ (z3 = z6) → (∃ R10 : Option ftV → ftH → Prop, ft_C k_Mo_edgeAbove [.inr (.inr 309), .inr (.inl x2)] h2 R10 ∧ ∀ (z12 : Int) (h4 : ftH), ft_inL z12 → R10 (some (.inr (.inl z12))) h4 → ft_V k_Mo_runs 8 [some (.inr (.inr 309)), some (.inl (ft_add x1 1)), some (.inr (.inl z12)), none] [] h4 R)))))))) : ft_V k_Mo_runs 8 [some (.inr (.inr 309)), some (.inl x1), some (.inr (.inl x2)), none] [] h R := by
  refine fv_lload_n (ft_d o_Mo_runs 6 rfl) rfl rfl ?_
  refine fv_ldc2 (v := 4294967296) (z := 4294967296) (ft_d o_Mo_runs 7 rfl) rfl (ft_gt 1564 (by decide +kernel) rfl) rfl ?_
  refine fv_lcmp_ge (tgt := 45) (ft_d o_Mo_runs 8 rfl) (ft_d o_Mo_runs 9 rfl) rfl rfl (fun c => ?_) (fun c => ?_)
  · have w := w.1 c
    refine fv_iload_n (ft_d o_Mo_runs 27 rfl) rfl rfl ?_
    exact fv_ireturn (ft_d o_Mo_runs 28 rfl) rfl w
  · have w := w.2 c
    refine fv_aload_n (ft_d o_Mo_runs 10 rfl) rfl rfl ?_
    refine fv_lload_n (ft_d o_Mo_runs 11 rfl) rfl rfl ?_
    refine fv_l2i (ft_d o_Mo_runs 12 rfl) rfl ?_
    obtain ⟨R1, c2, w⟩ := w
    refine fv_calli (st := []) (Or.inl rfl) rfl (ft_mm (pre := [.inl (ft_l2i x2), .inr (.inr 309)]) rfl) (ft_rnV (K' := k_Mo_answers) (As := [.inl (ft_l2i x2)]) (ft_d o_Mo_runs 13 rfl) ml_Mo_154 li_Mo_answers.1 li_Mo_answers.2 lw_Mo_answers ⟨rfl, rfl, Nat.le_of_ble_eq_true rfl, Nat.le_of_ble_eq_true rfl⟩ sh_309 rfl rfl rfl rfl (Nat.le_of_ble_eq_true rfl) c2) (fun z3 h1 hz hw => ?_)
    have w := w z3 h1 hz hw
    refine fv_aload_n (ft_d o_Mo_runs 14 rfl) rfl rfl ?_
    refine fv_lload_n (ft_d o_Mo_runs 15 rfl) rfl rfl ?_
    refine fv_lconst (z := 1) (ft_d o_Mo_runs 16 rfl) rfl rfl ?_
    refine fv_lsub (ft_d o_Mo_runs 17 rfl) rfl ?_
    refine fv_l2i (ft_d o_Mo_runs 18 rfl) rfl ?_
    obtain ⟨R4, c5, w⟩ := w
    refine fv_calli (st := [.inl z3]) (Or.inl rfl) rfl (ft_mm (pre := [.inl (ft_l2i (ft_subL x2 1)), .inr (.inr 309)]) rfl) (ft_rnV (K' := k_Mo_answers) (As := [.inl (ft_l2i (ft_subL x2 1))]) (ft_d o_Mo_runs 19 rfl) ml_Mo_154 li_Mo_answers.1 li_Mo_answers.2 lw_Mo_answers ⟨rfl, rfl, Nat.le_of_ble_eq_true rfl, Nat.le_of_ble_eq_true rfl⟩ sh_309 rfl rfl rfl rfl (Nat.le_of_ble_eq_true rfl) c5) (fun z6 h2 hz hw => ?_)
    have w := w z6 h2 hz hw
    refine fv_icmp_eq (tgt := 36) (ft_d o_Mo_runs 20 rfl) rfl rfl (fun c => ?_) (fun c => ?_)
    · have w := w.1 c
      refine fv_aload_n (ft_d o_Mo_runs 22 rfl) rfl rfl ?_
      refine fv_lload_n (ft_d o_Mo_runs 23 rfl) rfl rfl ?_
      obtain ⟨R7, c8, w⟩ := w
      refine fv_calll (st := []) rfl rfl (ft_mm (pre := [.inr (.inl x2), .inr (.inr 309)]) rfl) (ft_rnV (K' := k_Mo_edgeAbove) (As := [.inr (.inl x2)]) (ft_d o_Mo_runs 24 rfl) ml_Mo_348 li_Mo_edgeAbove.1 li_Mo_edgeAbove.2 lw_Mo_edgeAbove ⟨rfl, rfl, Nat.le_of_ble_eq_true rfl, Nat.le_of_ble_eq_true rfl⟩ sh_309 rfl rfl rfl rfl (Nat.le_of_ble_eq_true rfl) c8) (fun z9 h3 hz hw => ?_)
      have w := w z9 h3 hz hw
      refine fv_lstore_n (L' := [some (.inr (.inr 309)), some (.inl x1), some (.inr (.inl z9)), none]) (ft_d o_Mo_runs 25 rfl) rfl (Nat.le_of_ble_eq_true rfl) rfl ?_
      refine fv_goto (pc' := 8) (ft_d o_Mo_runs 26 rfl) rfl ?_
      exact w
    · have w := w.2 c
      refine fv_iinc (L' := [some (.inr (.inr 309)), some (.inl (ft_add x1 1)), some (.inr (.inl x2)), none]) (ft_d o_Mo_runs 21 rfl) rfl rfl (Nat.le_of_ble_eq_true rfl) rfl ?_
      refine fv_aload_n (ft_d o_Mo_runs 22 rfl) rfl rfl ?_
      refine fv_lload_n (ft_d o_Mo_runs 23 rfl) rfl rfl ?_
      obtain ⟨R10, c11, w⟩ := w
      refine fv_calll (st := []) rfl rfl (ft_mm (pre := [.inr (.inl x2), .inr (.inr 309)]) rfl) (ft_rnV (K' := k_Mo_edgeAbove) (As := [.inr (.inl x2)]) (ft_d o_Mo_runs 24 rfl) ml_Mo_348 li_Mo_edgeAbove.1 li_Mo_edgeAbove.2 lw_Mo_edgeAbove ⟨rfl, rfl, Nat.le_of_ble_eq_true rfl, Nat.le_of_ble_eq_true rfl⟩ sh_309 rfl rfl rfl rfl (Nat.le_of_ble_eq_true rfl) c11) (fun z12 h4 hz hw => ?_)
      have w := w z12 h4 hz hw
      refine fv_lstore_n (L' := [some (.inr (.inr 309)), some (.inl (ft_add x1 1)), some (.inr (.inl z12)), none]) (ft_d o_Mo_runs 25 rfl) rfl (Nat.le_of_ble_eq_true rfl) rfl ?_
      refine fv_goto (pc' := 8) (ft_d o_Mo_runs 26 rfl) rfl ?_
      exact w
set_option maxRecDepth 20000 in
theorem b_Mo_isIdle_0 {x1 : Int} {h : ftH} {R : Option ftV → ftH → Prop} 
    (w : (∃ R1 : Option ftV → ftH → Prop, ft_C k_Mo_parentOf [.inr (.inr 309), .inl x1] h R1 ∧ ∀ (z3 : Int) (h1 : ftH), ft_in z3 → R1 (some (.inl z3)) h1 → ((0 ≤ x1 ∧ x1 < 60) ∧ ((0 ≤ z3 → ((0 ≤ z3 ∧ z3 < 60) ∧ ((h1 310 (12 + 3 * x1.toNat) = h1 310 (12 + 3 * z3.toNat) → R (some (.inl 1)) h1) ∧ (¬ (h1 310 (12 + 3 * x1.toNat) = h1 310 (12 + 3 * z3.toNat)) → (∃ R8 : Option ftV → ftH → Prop, ft_C k_Mo_areaOf [.inr (.inr 309), .inl 10, .inl (h1 310 0), .inl x1] h1 R8 ∧ ∀ (z10 : Int) (h2 : ftH), ft_inL z10 → R8 (some (.inr (.inl z10))) h2 → ((¬ (z10 = 0) → R (some (.inl 0)) h2) ∧ (z10 = 0 → R (some (.inl 1)) h2))))))) ∧ (¬ (0 ≤ z3) → ((h1 310 (12 + 3 * x1.toNat) = 0 → R (some (.inl 1)) h1) ∧ (¬ (h1 310 (12 + 3 * x1.toNat) = 0) → (∃ R11 : Option ftV → ftH → Prop, ft_C k_Mo_areaOf [.inr (.inr 309), .inl 10, .inl (h1 310 0), .inl x1] h1 R11 ∧ ∀ (z13 : Int) (h3 : ftH), ft_inL z13 → R11 (some (.inr (.inl z13))) h3 → ((¬ (z13 = 0) → R (some (.inl 0)) h3) ∧ (z13 = 0 → R (some (.inl 1)) h3)))))))))) : ft_V k_Mo_isIdle 0 [some (.inr (.inr 309)), some (.inl x1), none] [] h R := by
  refine fv_aload_n (ft_d o_Mo_isIdle 0 rfl) rfl rfl ?_
  refine fv_iload_n (ft_d o_Mo_isIdle 1 rfl) rfl rfl ?_
  obtain ⟨R1, c2, w⟩ := w
  refine fv_calli (st := []) (Or.inl rfl) rfl (ft_mm (pre := [.inl x1, .inr (.inr 309)]) rfl) (ft_rnV (K' := k_Mo_parentOf) (As := [.inl x1]) (ft_d o_Mo_isIdle 2 rfl) ml_Mo_147 li_Mo_parentOf.1 li_Mo_parentOf.2 lw_Mo_parentOf ⟨rfl, rfl, Nat.le_of_ble_eq_true rfl, Nat.le_of_ble_eq_true rfl⟩ sh_309 rfl rfl rfl rfl (Nat.le_of_ble_eq_true rfl) c2) (fun z3 h1 hz hw => ?_)
  have w := w z3 h1 hz hw
  refine fv_istore_n (L' := [some (.inr (.inr 309)), some (.inl x1), some (.inl z3)]) (ft_d o_Mo_isIdle 3 rfl) rfl (Nat.le_of_ble_eq_true rfl) rfl ?_
  refine fv_aload_n (ft_d o_Mo_isIdle 4 rfl) rfl rfl ?_
  refine fv_iload_n (ft_d o_Mo_isIdle 5 rfl) rfl rfl ?_
  refine fv_callif (st := []) (z := h1 310 (12 + 3 * x1.toNat)) (Or.inl rfl) rfl (ft_mm (pre := [.inl x1, .inr (.inr 309)]) rfl) (ft_rnV (K' := k_Mo_hopOf) (As := [.inl x1]) (ft_d o_Mo_isIdle 6 rfl) ml_Mo_128 li_Mo_hopOf.1 li_Mo_hopOf.2 lw_Mo_hopOf ⟨rfl, rfl, Nat.le_of_ble_eq_true rfl, Nat.le_of_ble_eq_true rfl⟩ sh_309 rfl rfl rfl rfl (Nat.le_of_ble_eq_true rfl) (c_Mo_hopOf w.1)) ?_
  have w := w.2
  refine fv_iload_n (ft_d o_Mo_isIdle 7 rfl) rfl rfl ?_
  refine fv_if_ge (tgt := 19) (ft_d o_Mo_isIdle 8 rfl) rfl rfl (fun c => ?_) (fun c => ?_)
  · have w := w.1 c
    refine fv_aload_n (ft_d o_Mo_isIdle 11 rfl) rfl rfl ?_
    refine fv_iload_n (ft_d o_Mo_isIdle 12 rfl) rfl rfl ?_
    refine fv_callif (st := [.inl (h1 310 (12 + 3 * x1.toNat))]) (z := h1 310 (12 + 3 * z3.toNat)) (Or.inl rfl) rfl (ft_mm (pre := [.inl z3, .inr (.inr 309)]) rfl) (ft_rnV (K' := k_Mo_hopOf) (As := [.inl z3]) (ft_d o_Mo_isIdle 13 rfl) ml_Mo_128 li_Mo_hopOf.1 li_Mo_hopOf.2 lw_Mo_hopOf ⟨rfl, rfl, Nat.le_of_ble_eq_true rfl, Nat.le_of_ble_eq_true rfl⟩ sh_309 rfl rfl rfl rfl (Nat.le_of_ble_eq_true rfl) (c_Mo_hopOf w.1)) ?_
    have w := w.2
    refine fv_icmp_eq (tgt := 45) (ft_d o_Mo_isIdle 14 rfl) rfl rfl (fun c => ?_) (fun c => ?_)
    · have w := w.1 c
      refine fv_iconst (ft_d o_Mo_isIdle 26 rfl) rfl rfl ?_
      refine fv_goto (pc' := 50) (ft_d o_Mo_isIdle 27 rfl) rfl ?_
      exact fv_zreturn (ft_d o_Mo_isIdle 29 rfl) rfl (Or.inr rfl) w
    · have w := w.2 c
      refine fv_aload_n (ft_d o_Mo_isIdle 15 rfl) rfl rfl ?_
      refine fv_bipush (ft_d o_Mo_isIdle 16 rfl) rfl rfl ?_
      refine fv_aload_n (ft_d o_Mo_isIdle 17 rfl) rfl rfl ?_
      refine fv_getR (b := 310) (ft_d o_Mo_isIdle 18 rfl) rfl fl_Mo_13 sh_309 rfl ly_309_1 ?_
      refine fv_iconst (ft_d o_Mo_isIdle 19 rfl) rfl rfl ?_
      refine fv_ialdj (j := 0) (ft_d o_Mo_isIdle 20 rfl) rfl sh_310 ⟨by decide, by decide⟩ rfl ?_
      refine fv_iload_n (ft_d o_Mo_isIdle 21 rfl) rfl rfl ?_
      obtain ⟨R8, c9, w⟩ := w
      refine fv_calll (st := []) rfl rfl (ft_mm (pre := [.inl x1, .inl (h1 310 0), .inl 10, .inr (.inr 309)]) rfl) (ft_rnV (K' := k_Mo_areaOf) (As := [.inl 10, .inl (h1 310 0), .inl x1]) (ft_d o_Mo_isIdle 22 rfl) ml_Mo_150 li_Mo_areaOf.1 li_Mo_areaOf.2 lw_Mo_areaOf ⟨rfl, rfl, Nat.le_of_ble_eq_true rfl, Nat.le_of_ble_eq_true rfl⟩ sh_309 rfl rfl rfl rfl (Nat.le_of_ble_eq_true rfl) c9) (fun z10 h2 hz hw => ?_)
      have w := w z10 h2 hz hw
      refine fv_lconst (z := 0) (ft_d o_Mo_isIdle 23 rfl) rfl rfl ?_
      refine fv_lcmp_ne (tgt := 49) (ft_d o_Mo_isIdle 24 rfl) (ft_d o_Mo_isIdle 25 rfl) rfl rfl (fun c => ?_) (fun c => ?_)
      · have w := w.1 c
        refine fv_iconst (ft_d o_Mo_isIdle 28 rfl) rfl rfl ?_
        exact fv_zreturn (ft_d o_Mo_isIdle 29 rfl) rfl (Or.inl rfl) w
      · have w := w.2 c
        refine fv_iconst (ft_d o_Mo_isIdle 26 rfl) rfl rfl ?_
        refine fv_goto (pc' := 50) (ft_d o_Mo_isIdle 27 rfl) rfl ?_
        exact fv_zreturn (ft_d o_Mo_isIdle 29 rfl) rfl (Or.inr rfl) w
  · have w := w.2 c
    refine fv_iconst (ft_d o_Mo_isIdle 9 rfl) rfl rfl ?_
    refine fv_goto (pc' := 24) (ft_d o_Mo_isIdle 10 rfl) rfl ?_
    refine fv_icmp_eq (tgt := 45) (ft_d o_Mo_isIdle 14 rfl) rfl rfl (fun c => ?_) (fun c => ?_)
    · have w := w.1 c
      refine fv_iconst (ft_d o_Mo_isIdle 26 rfl) rfl rfl ?_
      refine fv_goto (pc' := 50) (ft_d o_Mo_isIdle 27 rfl) rfl ?_
      exact fv_zreturn (ft_d o_Mo_isIdle 29 rfl) rfl (Or.inr rfl) w
    · have w := w.2 c
      refine fv_aload_n (ft_d o_Mo_isIdle 15 rfl) rfl rfl ?_
      refine fv_bipush (ft_d o_Mo_isIdle 16 rfl) rfl rfl ?_
      refine fv_aload_n (ft_d o_Mo_isIdle 17 rfl) rfl rfl ?_
      refine fv_getR (b := 310) (ft_d o_Mo_isIdle 18 rfl) rfl fl_Mo_13 sh_309 rfl ly_309_1 ?_
      refine fv_iconst (ft_d o_Mo_isIdle 19 rfl) rfl rfl ?_
      refine fv_ialdj (j := 0) (ft_d o_Mo_isIdle 20 rfl) rfl sh_310 ⟨by decide, by decide⟩ rfl ?_
      refine fv_iload_n (ft_d o_Mo_isIdle 21 rfl) rfl rfl ?_
      obtain ⟨R11, c12, w⟩ := w
      refine fv_calll (st := []) rfl rfl (ft_mm (pre := [.inl x1, .inl (h1 310 0), .inl 10, .inr (.inr 309)]) rfl) (ft_rnV (K' := k_Mo_areaOf) (As := [.inl 10, .inl (h1 310 0), .inl x1]) (ft_d o_Mo_isIdle 22 rfl) ml_Mo_150 li_Mo_areaOf.1 li_Mo_areaOf.2 lw_Mo_areaOf ⟨rfl, rfl, Nat.le_of_ble_eq_true rfl, Nat.le_of_ble_eq_true rfl⟩ sh_309 rfl rfl rfl rfl (Nat.le_of_ble_eq_true rfl) c12) (fun z13 h3 hz hw => ?_)
      have w := w z13 h3 hz hw
      refine fv_lconst (z := 0) (ft_d o_Mo_isIdle 23 rfl) rfl rfl ?_
      refine fv_lcmp_ne (tgt := 49) (ft_d o_Mo_isIdle 24 rfl) (ft_d o_Mo_isIdle 25 rfl) rfl rfl (fun c => ?_) (fun c => ?_)
      · have w := w.1 c
        refine fv_iconst (ft_d o_Mo_isIdle 28 rfl) rfl rfl ?_
        exact fv_zreturn (ft_d o_Mo_isIdle 29 rfl) rfl (Or.inl rfl) w
      · have w := w.2 c
        refine fv_iconst (ft_d o_Mo_isIdle 26 rfl) rfl rfl ?_
        refine fv_goto (pc' := 50) (ft_d o_Mo_isIdle 27 rfl) rfl ?_
        exact fv_zreturn (ft_d o_Mo_isIdle 29 rfl) rfl (Or.inr rfl) w
set_option maxRecDepth 20000 in
theorem b_Mo_isRedundant_0 {x1 : Int} {h : ftH} {R : Option ftV → ftH → Prop} 
    (w : ((0 ≤ h 310 0) ∧ ((¬ (0 ≤ x1 ∧ x1 < h 310 0) → R (some (.inl 0)) h) ∧ (0 ≤ x1 ∧ x1 < h 310 0 → (∃ R3 : Option ftV → ftH → Prop, ft_C k_Mo_isIdle [.inr (.inr 309), .inl x1] h R3 ∧ ∀ (z5 : Int) (h1 : ftH), ft_in z5 → R3 (some (.inl z5)) h1 → ((z5 = 0 → R (some (.inl 0)) h1) ∧ (¬ (z5 = 0) → R (some (.inl 1)) h1))))))) : ft_V k_Mo_isRedundant 0 [some (.inr (.inr 309)), some (.inl x1)] [] h R := by
  refine fv_aload_n (ft_d o_Mo_isRedundant 0 rfl) rfl rfl ?_
  refine fv_iload_n (ft_d o_Mo_isRedundant 1 rfl) rfl rfl ?_
  refine fv_callif (st := []) (z := (if 0 ≤ x1 ∧ x1 < h 310 0 then 1 else 0)) (Or.inr rfl) rfl (ft_mm (pre := [.inl x1, .inr (.inr 309)]) rfl) (ft_rnV (K' := k_Mo_isRoute) (As := [.inl x1]) (ft_d o_Mo_isRedundant 2 rfl) ml_Mo_141 li_Mo_isRoute.1 li_Mo_isRoute.2 lw_Mo_isRoute ⟨rfl, rfl, Nat.le_of_ble_eq_true rfl, Nat.le_of_ble_eq_true rfl⟩ sh_309 rfl rfl rfl rfl (Nat.le_of_ble_eq_true rfl) (c_Mo_isRoute w.1)) ?_
  have w := w.2
  refine fv_if_eq (tgt := 20) (ft_d o_Mo_isRedundant 3 rfl) rfl rfl (fun c => ?_) (fun c => ?_)
  · have w := w.1 (ft_if0.mp c)
    refine fv_iconst (ft_d o_Mo_isRedundant 10 rfl) rfl rfl ?_
    exact fv_zreturn (ft_d o_Mo_isRedundant 11 rfl) rfl (Or.inl rfl) w
  · have w := w.2 (ft_if1.mp c)
    refine fv_aload_n (ft_d o_Mo_isRedundant 4 rfl) rfl rfl ?_
    refine fv_iload_n (ft_d o_Mo_isRedundant 5 rfl) rfl rfl ?_
    obtain ⟨R3, c4, w⟩ := w
    refine fv_calli (st := []) (Or.inr rfl) rfl (ft_mm (pre := [.inl x1, .inr (.inr 309)]) rfl) (ft_rnV (K' := k_Mo_isIdle) (As := [.inl x1]) (ft_d o_Mo_isRedundant 6 rfl) ml_Mo_352 li_Mo_isIdle.1 li_Mo_isIdle.2 lw_Mo_isIdle ⟨rfl, rfl, Nat.le_of_ble_eq_true rfl, Nat.le_of_ble_eq_true rfl⟩ sh_309 rfl rfl rfl rfl (Nat.le_of_ble_eq_true rfl) c4) (fun z5 h1 hz hw => ?_)
    have w := w z5 h1 hz hw
    refine fv_if_eq (tgt := 20) (ft_d o_Mo_isRedundant 7 rfl) rfl rfl (fun c => ?_) (fun c => ?_)
    · have w := w.1 c
      refine fv_iconst (ft_d o_Mo_isRedundant 10 rfl) rfl rfl ?_
      exact fv_zreturn (ft_d o_Mo_isRedundant 11 rfl) rfl (Or.inl rfl) w
    · have w := w.2 c
      refine fv_iconst (ft_d o_Mo_isRedundant 8 rfl) rfl rfl ?_
      refine fv_goto (pc' := 21) (ft_d o_Mo_isRedundant 9 rfl) rfl ?_
      exact fv_zreturn (ft_d o_Mo_isRedundant 11 rfl) rfl (Or.inr rfl) w
set_option maxRecDepth 20000 in
theorem b_Mo_redundant_0  {h : ftH} {R : Option ftV → ftH → Prop} 
    (w : ft_V k_Mo_redundant 4 [some (.inr (.inr 309)), some (.inl 0), some (.inl 0)] [] h R) : ft_V k_Mo_redundant 0 [some (.inr (.inr 309)), none, none] [] h R := by
  refine fv_iconst (ft_d o_Mo_redundant 0 rfl) rfl rfl ?_
  refine fv_istore_n (L' := [some (.inr (.inr 309)), some (.inl 0), none]) (ft_d o_Mo_redundant 1 rfl) rfl (Nat.le_of_ble_eq_true rfl) rfl ?_
  refine fv_iconst (ft_d o_Mo_redundant 2 rfl) rfl rfl ?_
  refine fv_istore_n (L' := [some (.inr (.inr 309)), some (.inl 0), some (.inl 0)]) (ft_d o_Mo_redundant 3 rfl) rfl (Nat.le_of_ble_eq_true rfl) rfl ?_
  exact w
set_option maxRecDepth 20000 in
theorem b_Mo_redundant_4 {x1 : Int} {x2 : Int} {h : ftH} {R : Option ftV → ftH → Prop} 
    (w : ((h 310 0 ≤ x2 → R (some (.inl x1)) h) ∧ (¬ (h 310 0 ≤ x2) → (∃ R1 : Option ftV → ftH → Prop, ft_C k_Mo_isIdle [.inr (.inr 309), .inl x2] h R1 ∧ ∀ (z3 : Int) (h1 : ftH), ft_in z3 → R1 (some (.inl z3)) h1 → ((z3 = 0 → ft_V k_Mo_redundant 4 [some (.inr (.inr 309)), some (.inl x1), some (.inl (ft_add x2 1))] [] h1 R) ∧ (¬ (z3 = 0) → ft_V k_Mo_redundant 4 [some (.inr (.inr 309)), some (.inl (ft_add x1 1)), some (.inl (ft_add x2 1))] [] h1 R)))))) : ft_V k_Mo_redundant 4 [some (.inr (.inr 309)), some (.inl x1), some (.inl x2)] [] h R := by
  refine fv_iload_n (ft_d o_Mo_redundant 4 rfl) rfl rfl ?_
  refine fv_aload_n (ft_d o_Mo_redundant 5 rfl) rfl rfl ?_
  refine fv_getR (b := 310) (ft_d o_Mo_redundant 6 rfl) rfl fl_Mo_13 sh_309 rfl ly_309_1 ?_
  refine fv_iconst (ft_d o_Mo_redundant 7 rfl) rfl rfl ?_
  refine fv_ialdj (j := 0) (ft_d o_Mo_redundant 8 rfl) rfl sh_310 ⟨by decide, by decide⟩ rfl ?_
  refine fv_icmp_ge (tgt := 31) (ft_d o_Mo_redundant 9 rfl) rfl rfl (fun c => ?_) (fun c => ?_)
  · have w := w.1 c
    refine fv_iload_n (ft_d o_Mo_redundant 17 rfl) rfl rfl ?_
    exact fv_ireturn (ft_d o_Mo_redundant 18 rfl) rfl w
  · have w := w.2 c
    refine fv_aload_n (ft_d o_Mo_redundant 10 rfl) rfl rfl ?_
    refine fv_iload_n (ft_d o_Mo_redundant 11 rfl) rfl rfl ?_
    obtain ⟨R1, c2, w⟩ := w
    refine fv_calli (st := []) (Or.inr rfl) rfl (ft_mm (pre := [.inl x2, .inr (.inr 309)]) rfl) (ft_rnV (K' := k_Mo_isIdle) (As := [.inl x2]) (ft_d o_Mo_redundant 12 rfl) ml_Mo_352 li_Mo_isIdle.1 li_Mo_isIdle.2 lw_Mo_isIdle ⟨rfl, rfl, Nat.le_of_ble_eq_true rfl, Nat.le_of_ble_eq_true rfl⟩ sh_309 rfl rfl rfl rfl (Nat.le_of_ble_eq_true rfl) c2) (fun z3 h1 hz hw => ?_)
    have w := w z3 h1 hz hw
    refine fv_if_eq (tgt := 25) (ft_d o_Mo_redundant 13 rfl) rfl rfl (fun c => ?_) (fun c => ?_)
    · have w := w.1 c
      refine fv_iinc (L' := [some (.inr (.inr 309)), some (.inl x1), some (.inl (ft_add x2 1))]) (ft_d o_Mo_redundant 15 rfl) rfl rfl (Nat.le_of_ble_eq_true rfl) rfl ?_
      refine fv_goto (pc' := 4) (ft_d o_Mo_redundant 16 rfl) rfl ?_
      exact w
    · have w := w.2 c
      refine fv_iinc (L' := [some (.inr (.inr 309)), some (.inl (ft_add x1 1)), some (.inl x2)]) (ft_d o_Mo_redundant 14 rfl) rfl rfl (Nat.le_of_ble_eq_true rfl) rfl ?_
      refine fv_iinc (L' := [some (.inr (.inr 309)), some (.inl (ft_add x1 1)), some (.inl (ft_add x2 1))]) (ft_d o_Mo_redundant 15 rfl) rfl rfl (Nat.le_of_ble_eq_true rfl) rfl ?_
      refine fv_goto (pc' := 4) (ft_d o_Mo_redundant 16 rfl) rfl ?_
      exact w
set_option maxRecDepth 20000 in
theorem b_Mo_nesting_0  {h : ftH} {R : Option ftV → ftH → Prop} 
    (w : ft_V k_Mo_nesting 4 [some (.inr (.inr 309)), some (.inl 0), some (.inl 0), none, none] [] h R) : ft_V k_Mo_nesting 0 [some (.inr (.inr 309)), none, none, none, none] [] h R := by
  refine fv_iconst (ft_d o_Mo_nesting 0 rfl) rfl rfl ?_
  refine fv_istore_n (L' := [some (.inr (.inr 309)), some (.inl 0), none, none, none]) (ft_d o_Mo_nesting 1 rfl) rfl (Nat.le_of_ble_eq_true rfl) rfl ?_
  refine fv_iconst (ft_d o_Mo_nesting 2 rfl) rfl rfl ?_
  refine fv_istore_n (L' := [some (.inr (.inr 309)), some (.inl 0), some (.inl 0), none, none]) (ft_d o_Mo_nesting 3 rfl) rfl (Nat.le_of_ble_eq_true rfl) rfl ?_
  exact w
set_option maxRecDepth 20000 in
theorem b_Mo_nesting_4 {x1 : Int} {x2 : Int} {h : ftH} {R : Option ftV → ftH → Prop} 
    (w : ((h 310 0 ≤ x2 → R (some (.inl x1)) h) ∧ (¬ (h 310 0 ≤ x2) → (∃ R1 : Option ftV → ftH → Prop, ft_C k_Mo_parentOf [.inr (.inr 309), .inl x2] h R1 ∧ ∀ (z3 : Int) (h1 : ftH), ft_in z3 → R1 (some (.inl z3)) h1 → ft_V k_Mo_nesting 23 [some (.inr (.inr 309)), some (.inl x1), some (.inl x2), some (.inl 1), some (.inl z3)] [] h1 R)))) : ft_V k_Mo_nesting 4 [some (.inr (.inr 309)), some (.inl x1), some (.inl x2), none, none] [] h R := by
  refine fv_iload_n (ft_d o_Mo_nesting 4 rfl) rfl rfl ?_
  refine fv_aload_n (ft_d o_Mo_nesting 5 rfl) rfl rfl ?_
  refine fv_getR (b := 310) (ft_d o_Mo_nesting 6 rfl) rfl fl_Mo_13 sh_309 rfl ly_309_1 ?_
  refine fv_iconst (ft_d o_Mo_nesting 7 rfl) rfl rfl ?_
  refine fv_ialdj (j := 0) (ft_d o_Mo_nesting 8 rfl) rfl sh_310 ⟨by decide, by decide⟩ rfl ?_
  refine fv_icmp_ge (tgt := 55) (ft_d o_Mo_nesting 9 rfl) rfl rfl (fun c => ?_) (fun c => ?_)
  · have w := w.1 c
    refine fv_iload_n (ft_d o_Mo_nesting 31 rfl) rfl rfl ?_
    exact fv_ireturn (ft_d o_Mo_nesting 32 rfl) rfl w
  · have w := w.2 c
    refine fv_iconst (ft_d o_Mo_nesting 10 rfl) rfl rfl ?_
    refine fv_istore_n (L' := [some (.inr (.inr 309)), some (.inl x1), some (.inl x2), some (.inl 1), none]) (ft_d o_Mo_nesting 11 rfl) rfl (Nat.le_of_ble_eq_true rfl) rfl ?_
    refine fv_aload_n (ft_d o_Mo_nesting 12 rfl) rfl rfl ?_
    refine fv_iload_n (ft_d o_Mo_nesting 13 rfl) rfl rfl ?_
    obtain ⟨R1, c2, w⟩ := w
    refine fv_calli (st := []) (Or.inl rfl) rfl (ft_mm (pre := [.inl x2, .inr (.inr 309)]) rfl) (ft_rnV (K' := k_Mo_parentOf) (As := [.inl x2]) (ft_d o_Mo_nesting 14 rfl) ml_Mo_147 li_Mo_parentOf.1 li_Mo_parentOf.2 lw_Mo_parentOf ⟨rfl, rfl, Nat.le_of_ble_eq_true rfl, Nat.le_of_ble_eq_true rfl⟩ sh_309 rfl rfl rfl rfl (Nat.le_of_ble_eq_true rfl) c2) (fun z3 h1 hz hw => ?_)
    have w := w z3 h1 hz hw
    refine fv_istore (L' := [some (.inr (.inr 309)), some (.inl x1), some (.inl x2), some (.inl 1), some (.inl z3)]) (ft_d o_Mo_nesting 15 rfl) rfl (Nat.le_of_ble_eq_true rfl) rfl ?_
    exact w
set_option maxRecDepth 20000 in
theorem b_Mo_nesting_23 {x1 : Int} {x2 : Int} {x3 : Int} {x4 : Int} {h : ftH} {R : Option ftV → ftH → Prop} 
    (w : ((x4 < 0 → ((x3 ≤ x1 → ft_V k_Mo_nesting 4 [some (.inr (.inr 309)), some (.inl x1), some (.inl (ft_add x2 1)), none, none] [] h R) ∧ (¬ (x3 ≤ x1) → ft_V k_Mo_nesting 4 [some (.inr (.inr 309)), some (.inl x3), some (.inl (ft_add x2 1)), none, none] [] h R))) ∧ (¬ (x4 < 0) → (∃ R1 : Option ftV → ftH → Prop, ft_C k_Mo_parentOf [.inr (.inr 309), .inl x4] h R1 ∧ ∀ (z3 : Int) (h1 : ftH), ft_in z3 → R1 (some (.inl z3)) h1 → ft_V k_Mo_nesting 23 [some (.inr (.inr 309)), some (.inl x1), some (.inl x2), some (.inl (ft_add x3 1)), some (.inl z3)] [] h1 R)))) : ft_V k_Mo_nesting 23 [some (.inr (.inr 309)), some (.inl x1), some (.inl x2), some (.inl x3), some (.inl x4)] [] h R := by
  refine fv_iload (ft_d o_Mo_nesting 16 rfl) rfl rfl ?_
  refine fv_if_lt (tgt := 42) (ft_d o_Mo_nesting 17 rfl) rfl rfl (fun c => ?_) (fun c => ?_)
  · have w := w.1 c
    refine fv_iload_n (ft_d o_Mo_nesting 24 rfl) rfl rfl ?_
    refine fv_iload_n (ft_d o_Mo_nesting 25 rfl) rfl rfl ?_
    refine fv_icmp_le (tgt := 49) (ft_d o_Mo_nesting 26 rfl) rfl rfl (fun c => ?_) (fun c => ?_)
    · have w := w.1 c
      refine fv_iinc (L' := [some (.inr (.inr 309)), some (.inl x1), some (.inl (ft_add x2 1)), some (.inl x3), some (.inl x4)]) (ft_d o_Mo_nesting 29 rfl) rfl rfl (Nat.le_of_ble_eq_true rfl) rfl ?_
      refine fv_goto (pc' := 4) (ft_d o_Mo_nesting 30 rfl) rfl ?_
      refine fv_mask (M := [true, true, true, false, false]) rfl ?_
      exact w
    · have w := w.2 c
      refine fv_iload_n (ft_d o_Mo_nesting 27 rfl) rfl rfl ?_
      refine fv_istore_n (L' := [some (.inr (.inr 309)), some (.inl x3), some (.inl x2), some (.inl x3), some (.inl x4)]) (ft_d o_Mo_nesting 28 rfl) rfl (Nat.le_of_ble_eq_true rfl) rfl ?_
      refine fv_iinc (L' := [some (.inr (.inr 309)), some (.inl x3), some (.inl (ft_add x2 1)), some (.inl x3), some (.inl x4)]) (ft_d o_Mo_nesting 29 rfl) rfl rfl (Nat.le_of_ble_eq_true rfl) rfl ?_
      refine fv_goto (pc' := 4) (ft_d o_Mo_nesting 30 rfl) rfl ?_
      refine fv_mask (M := [true, true, true, false, false]) rfl ?_
      exact w
  · have w := w.2 c
    refine fv_iinc (L' := [some (.inr (.inr 309)), some (.inl x1), some (.inl x2), some (.inl (ft_add x3 1)), some (.inl x4)]) (ft_d o_Mo_nesting 18 rfl) rfl rfl (Nat.le_of_ble_eq_true rfl) rfl ?_
    refine fv_aload_n (ft_d o_Mo_nesting 19 rfl) rfl rfl ?_
    refine fv_iload (ft_d o_Mo_nesting 20 rfl) rfl rfl ?_
    obtain ⟨R1, c2, w⟩ := w
    refine fv_calli (st := []) (Or.inl rfl) rfl (ft_mm (pre := [.inl x4, .inr (.inr 309)]) rfl) (ft_rnV (K' := k_Mo_parentOf) (As := [.inl x4]) (ft_d o_Mo_nesting 21 rfl) ml_Mo_147 li_Mo_parentOf.1 li_Mo_parentOf.2 lw_Mo_parentOf ⟨rfl, rfl, Nat.le_of_ble_eq_true rfl, Nat.le_of_ble_eq_true rfl⟩ sh_309 rfl rfl rfl rfl (Nat.le_of_ble_eq_true rfl) c2) (fun z3 h1 hz hw => ?_)
    have w := w z3 h1 hz hw
    refine fv_istore (L' := [some (.inr (.inr 309)), some (.inl x1), some (.inl x2), some (.inl (ft_add x3 1)), some (.inl z3)]) (ft_d o_Mo_nesting 22 rfl) rfl (Nat.le_of_ble_eq_true rfl) rfl ?_
    refine fv_goto (pc' := 23) (ft_d o_Mo_nesting 23 rfl) rfl ?_
    exact w
set_option maxRecDepth 20000 in
theorem b_Mo_entriesWithout_0 {x1 : Int} {h : ftH} {R : Option ftV → ftH → Prop} 
    (w : (∃ R1 : Option ftV → ftH → Prop, ft_C k_Mo_laysAside [.inr (.inr 309)] h R1 ∧ ∀ h1 : ftH, R1 none h1 → (∃ R3 : Option ftV → ftH → Prop, ft_C k_Mo_takesOut [.inr (.inr 309), .inl 10, .inl (h1 310 0), .inl x1] h1 R3 ∧ ∀ h2 : ftH, R3 none h2 → (∀ h3 : ftH, h3 = ft_hs h2 310 0 (ft_sub (h2 310 0) 1) → (∀ h4 : ftH, h4 = ft_hs h3 309 20 0 → (∃ R5 : Option ftV → ftH → Prop, ft_C k_Mo_laysEntries [.inr (.inr 309)] h4 R5 ∧ ∀ h5 : ftH, R5 none h5 → (∃ R7 : Option ftV → ftH → Prop, ft_C k_Mo_comesBack [.inr (.inr 309)] h5 R7 ∧ ∀ h6 : ftH, R7 none h6 → R (some (.inl (h6 309 14))) h6))))))) : ft_V k_Mo_entriesWithout 0 [some (.inr (.inr 309)), some (.inl x1)] [] h R := by
  refine fv_aload_n (ft_d o_Mo_entriesWithout 0 rfl) rfl rfl ?_
  obtain ⟨R1, c2, w⟩ := w
  refine fv_callv (st := []) rfl rfl (ft_mm (pre := [.inr (.inr 309)]) rfl) (ft_rnV (K' := k_Mo_laysAside) (As := []) (ft_d o_Mo_entriesWithout 1 rfl) ml_Mo_333 li_Mo_laysAside.1 li_Mo_laysAside.2 lw_Mo_laysAside ⟨rfl, rfl, Nat.le_of_ble_eq_true rfl, Nat.le_of_ble_eq_true rfl⟩ sh_309 rfl rfl rfl rfl (Nat.le_of_ble_eq_true rfl) c2) (fun h1 hw => ?_)
  have w := w h1 hw
  refine fv_aload_n (ft_d o_Mo_entriesWithout 2 rfl) rfl rfl ?_
  refine fv_bipush (ft_d o_Mo_entriesWithout 3 rfl) rfl rfl ?_
  refine fv_aload_n (ft_d o_Mo_entriesWithout 4 rfl) rfl rfl ?_
  refine fv_getR (b := 310) (ft_d o_Mo_entriesWithout 5 rfl) rfl fl_Mo_13 sh_309 rfl ly_309_1 ?_
  refine fv_iconst (ft_d o_Mo_entriesWithout 6 rfl) rfl rfl ?_
  refine fv_ialdj (j := 0) (ft_d o_Mo_entriesWithout 7 rfl) rfl sh_310 ⟨by decide, by decide⟩ rfl ?_
  refine fv_iload_n (ft_d o_Mo_entriesWithout 8 rfl) rfl rfl ?_
  obtain ⟨R3, c4, w⟩ := w
  refine fv_callv (st := []) rfl rfl (ft_mm (pre := [.inl x1, .inl (h1 310 0), .inl 10, .inr (.inr 309)]) rfl) (ft_rnV (K' := k_Mo_takesOut) (As := [.inl 10, .inl (h1 310 0), .inl x1]) (ft_d o_Mo_entriesWithout 9 rfl) ml_Mo_169 li_Mo_takesOut.1 li_Mo_takesOut.2 lw_Mo_takesOut ⟨rfl, rfl, Nat.le_of_ble_eq_true rfl, Nat.le_of_ble_eq_true rfl⟩ sh_309 rfl rfl rfl rfl (Nat.le_of_ble_eq_true rfl) c4) (fun h2 hw => ?_)
  have w := w h2 hw
  refine fv_aload_n (ft_d o_Mo_entriesWithout 10 rfl) rfl rfl ?_
  refine fv_getR (b := 310) (ft_d o_Mo_entriesWithout 11 rfl) rfl fl_Mo_13 sh_309 rfl ly_309_1 ?_
  refine fv_iconst (ft_d o_Mo_entriesWithout 12 rfl) rfl rfl ?_
  refine fv_dup2 (ft_d o_Mo_entriesWithout 13 rfl) rfl rfl rfl ?_
  refine fv_ialdj (j := 0) (ft_d o_Mo_entriesWithout 14 rfl) rfl sh_310 ⟨by decide, by decide⟩ rfl ?_
  refine fv_iconst (ft_d o_Mo_entriesWithout 15 rfl) rfl rfl ?_
  refine fv_isub (ft_d o_Mo_entriesWithout 16 rfl) rfl ?_
  refine fv_iastj (j := 0) (ft_d o_Mo_entriesWithout 17 rfl) rfl sh_310 ⟨by decide, by decide⟩ rfl ?_
  generalize eh3 : ft_hs h2 310 0 (ft_sub (h2 310 0) 1) = h3
  have w := w h3 eh3.symm
  refine fv_aload_n (ft_d o_Mo_entriesWithout 18 rfl) rfl rfl ?_
  refine fv_iconst (ft_d o_Mo_entriesWithout 19 rfl) rfl rfl ?_
  refine fv_putZ (ft_d o_Mo_entriesWithout 20 rfl) rfl fl_Mo_90 rfl rfl sh_309 rfl (Or.inl rfl) ?_
  generalize eh4 : ft_hs h3 309 20 0 = h4
  have w := w h4 eh4.symm
  refine fv_aload_n (ft_d o_Mo_entriesWithout 21 rfl) rfl rfl ?_
  obtain ⟨R5, c6, w⟩ := w
  refine fv_callv (st := []) rfl rfl (ft_mm (pre := [.inr (.inr 309)]) rfl) (ft_rnV (K' := k_Mo_laysEntries) (As := []) (ft_d o_Mo_entriesWithout 22 rfl) ml_Mo_269 li_Mo_laysEntries.1 li_Mo_laysEntries.2 lw_Mo_laysEntries ⟨rfl, rfl, Nat.le_of_ble_eq_true rfl, Nat.le_of_ble_eq_true rfl⟩ sh_309 rfl rfl rfl rfl (Nat.le_of_ble_eq_true rfl) c6) (fun h5 hw => ?_)
  have w := w h5 hw
  refine fv_aload_n (ft_d o_Mo_entriesWithout 23 rfl) rfl rfl ?_
  obtain ⟨R7, c8, w⟩ := w
  refine fv_callv (st := []) rfl rfl (ft_mm (pre := [.inr (.inr 309)]) rfl) (ft_rnV (K' := k_Mo_comesBack) (As := []) (ft_d o_Mo_entriesWithout 24 rfl) ml_Mo_339 li_Mo_comesBack.1 li_Mo_comesBack.2 lw_Mo_comesBack ⟨rfl, rfl, Nat.le_of_ble_eq_true rfl, Nat.le_of_ble_eq_true rfl⟩ sh_309 rfl rfl rfl rfl (Nat.le_of_ble_eq_true rfl) c8) (fun h6 hw => ?_)
  have w := w h6 hw
  refine fv_aload_n (ft_d o_Mo_entriesWithout 25 rfl) rfl rfl ?_
  refine fv_getI (ft_d o_Mo_entriesWithout 26 rfl) rfl fl_Mo_236 sh_309 rfl ?_
  exact fv_ireturn (ft_d o_Mo_entriesWithout 27 rfl) rfl w
set_option maxRecDepth 20000 in
theorem b_Mo_compressedWithout_0 {x1 : Int} {h : ftH} {R : Option ftV → ftH → Prop} 
    (w : ((0 ≤ x1 → ((0 ≤ h 310 0) ∧ ((¬ (0 ≤ x1 ∧ x1 < h 310 0) → R (some (.inl ((-2)))) h) ∧ (0 ≤ x1 ∧ x1 < h 310 0 → (∃ R3 : Option ftV → ftH → Prop, ft_C k_Mo_entriesWithout [.inr (.inr 309), .inl x1] h R3 ∧ ∀ (z5 : Int) (h1 : ftH), ft_in z5 → R3 (some (.inl z5)) h1 → R (some (.inl z5)) h1))))) ∧ (¬ (0 ≤ x1) → R (some (.inl ((-1)))) h))) : ft_V k_Mo_compressedWithout 0 [some (.inr (.inr 309)), some (.inl x1)] [] h R := by
  refine fv_iload_n (ft_d o_Mo_compressedWithout 0 rfl) rfl rfl ?_
  refine fv_if_ge (tgt := 6) (ft_d o_Mo_compressedWithout 1 rfl) rfl rfl (fun c => ?_) (fun c => ?_)
  · have w := w.1 c
    refine fv_aload_n (ft_d o_Mo_compressedWithout 4 rfl) rfl rfl ?_
    refine fv_iload_n (ft_d o_Mo_compressedWithout 5 rfl) rfl rfl ?_
    refine fv_callif (st := []) (z := (if 0 ≤ x1 ∧ x1 < h 310 0 then 1 else 0)) (Or.inr rfl) rfl (ft_mm (pre := [.inl x1, .inr (.inr 309)]) rfl) (ft_rnV (K' := k_Mo_isRoute) (As := [.inl x1]) (ft_d o_Mo_compressedWithout 6 rfl) ml_Mo_141 li_Mo_isRoute.1 li_Mo_isRoute.2 lw_Mo_isRoute ⟨rfl, rfl, Nat.le_of_ble_eq_true rfl, Nat.le_of_ble_eq_true rfl⟩ sh_309 rfl rfl rfl rfl (Nat.le_of_ble_eq_true rfl) (c_Mo_isRoute w.1)) ?_
    have w := w.2
    refine fv_if_eq (tgt := 22) (ft_d o_Mo_compressedWithout 7 rfl) rfl rfl (fun c => ?_) (fun c => ?_)
    · have w := w.1 (ft_if0.mp c)
      refine fv_bipush (ft_d o_Mo_compressedWithout 12 rfl) rfl rfl ?_
      exact fv_ireturn (ft_d o_Mo_compressedWithout 13 rfl) rfl w
    · have w := w.2 (ft_if1.mp c)
      refine fv_aload_n (ft_d o_Mo_compressedWithout 8 rfl) rfl rfl ?_
      refine fv_iload_n (ft_d o_Mo_compressedWithout 9 rfl) rfl rfl ?_
      obtain ⟨R3, c4, w⟩ := w
      refine fv_calli (st := []) (Or.inl rfl) rfl (ft_mm (pre := [.inl x1, .inr (.inr 309)]) rfl) (ft_rnV (K' := k_Mo_entriesWithout) (As := [.inl x1]) (ft_d o_Mo_compressedWithout 10 rfl) ml_Mo_355 li_Mo_entriesWithout.1 li_Mo_entriesWithout.2 lw_Mo_entriesWithout ⟨rfl, rfl, Nat.le_of_ble_eq_true rfl, Nat.le_of_ble_eq_true rfl⟩ sh_309 rfl rfl rfl rfl (Nat.le_of_ble_eq_true rfl) c4) (fun z5 h1 hz hw => ?_)
      have w := w z5 h1 hz hw
      refine fv_goto (pc' := 24) (ft_d o_Mo_compressedWithout 11 rfl) rfl ?_
      exact fv_ireturn (ft_d o_Mo_compressedWithout 13 rfl) rfl w
  · have w := w.2 c
    refine fv_iconst (ft_d o_Mo_compressedWithout 2 rfl) rfl rfl ?_
    exact fv_ireturn (ft_d o_Mo_compressedWithout 3 rfl) rfl w
set_option maxRecDepth 20000 in
theorem b_Mo_costliest_0  {h : ftH} {R : Option ftV → ftH → Prop} 
    (w : (∀ n1 : Int, n1 = (-2) → ft_V k_Mo_costliest 7 [some (.inr (.inr 309)), some (.inl n1), some (.inl 0), some (.inl 0), none] [] h R)) : ft_V k_Mo_costliest 0 [some (.inr (.inr 309)), none, none, none, none] [] h R := by
  refine fv_bipush (ft_d o_Mo_costliest 0 rfl) rfl rfl ?_
  generalize en1 : (-2) = n1
  have w := w n1 en1.symm
  refine fv_istore_n (L' := [some (.inr (.inr 309)), some (.inl n1), none, none, none]) (ft_d o_Mo_costliest 1 rfl) rfl (Nat.le_of_ble_eq_true rfl) rfl ?_
  refine fv_iconst (ft_d o_Mo_costliest 2 rfl) rfl rfl ?_
  refine fv_istore_n (L' := [some (.inr (.inr 309)), some (.inl n1), some (.inl 0), none, none]) (ft_d o_Mo_costliest 3 rfl) rfl (Nat.le_of_ble_eq_true rfl) rfl ?_
  refine fv_iconst (ft_d o_Mo_costliest 4 rfl) rfl rfl ?_
  refine fv_istore_n (L' := [some (.inr (.inr 309)), some (.inl n1), some (.inl 0), some (.inl 0), none]) (ft_d o_Mo_costliest 5 rfl) rfl (Nat.le_of_ble_eq_true rfl) rfl ?_
  exact w
set_option maxRecDepth 20000 in
theorem b_Mo_costliest_7 {x1 : Int} {x2 : Int} {x3 : Int} {h : ftH} {R : Option ftV → ftH → Prop} 
    (w : ((h 310 0 ≤ x3 → R (some (.inl x1)) h) ∧ (¬ (h 310 0 ≤ x3) → (∃ R1 : Option ftV → ftH → Prop, ft_C k_Mo_entriesWithout [.inr (.inr 309), .inl x3] h R1 ∧ ∀ (z3 : Int) (h1 : ftH), ft_in z3 → R1 (some (.inl z3)) h1 → ((x1 < 0 → ft_V k_Mo_costliest 7 [some (.inr (.inr 309)), some (.inl x3), some (.inl z3), some (.inl (ft_add x3 1)), none] [] h1 R) ∧ (¬ (x1 < 0) → ((z3 < x2 → ft_V k_Mo_costliest 7 [some (.inr (.inr 309)), some (.inl x3), some (.inl z3), some (.inl (ft_add x3 1)), none] [] h1 R) ∧ (¬ (z3 < x2) → ft_V k_Mo_costliest 7 [some (.inr (.inr 309)), some (.inl x1), some (.inl x2), some (.inl (ft_add x3 1)), none] [] h1 R)))))))) : ft_V k_Mo_costliest 7 [some (.inr (.inr 309)), some (.inl x1), some (.inl x2), some (.inl x3), none] [] h R := by
  refine fv_iload_n (ft_d o_Mo_costliest 6 rfl) rfl rfl ?_
  refine fv_aload_n (ft_d o_Mo_costliest 7 rfl) rfl rfl ?_
  refine fv_getR (b := 310) (ft_d o_Mo_costliest 8 rfl) rfl fl_Mo_13 sh_309 rfl ly_309_1 ?_
  refine fv_iconst (ft_d o_Mo_costliest 9 rfl) rfl rfl ?_
  refine fv_ialdj (j := 0) (ft_d o_Mo_costliest 10 rfl) rfl sh_310 ⟨by decide, by decide⟩ rfl ?_
  refine fv_icmp_ge (tgt := 48) (ft_d o_Mo_costliest 11 rfl) rfl rfl (fun c => ?_) (fun c => ?_)
  · have w := w.1 c
    refine fv_iload_n (ft_d o_Mo_costliest 28 rfl) rfl rfl ?_
    exact fv_ireturn (ft_d o_Mo_costliest 29 rfl) rfl w
  · have w := w.2 c
    refine fv_aload_n (ft_d o_Mo_costliest 12 rfl) rfl rfl ?_
    refine fv_iload_n (ft_d o_Mo_costliest 13 rfl) rfl rfl ?_
    obtain ⟨R1, c2, w⟩ := w
    refine fv_calli (st := []) (Or.inl rfl) rfl (ft_mm (pre := [.inl x3, .inr (.inr 309)]) rfl) (ft_rnV (K' := k_Mo_entriesWithout) (As := [.inl x3]) (ft_d o_Mo_costliest 14 rfl) ml_Mo_355 li_Mo_entriesWithout.1 li_Mo_entriesWithout.2 lw_Mo_entriesWithout ⟨rfl, rfl, Nat.le_of_ble_eq_true rfl, Nat.le_of_ble_eq_true rfl⟩ sh_309 rfl rfl rfl rfl (Nat.le_of_ble_eq_true rfl) c2) (fun z3 h1 hz hw => ?_)
    have w := w z3 h1 hz hw
    refine fv_istore (L' := [some (.inr (.inr 309)), some (.inl x1), some (.inl x2), some (.inl x3), some (.inl z3)]) (ft_d o_Mo_costliest 15 rfl) rfl (Nat.le_of_ble_eq_true rfl) rfl ?_
    refine fv_iload_n (ft_d o_Mo_costliest 16 rfl) rfl rfl ?_
    refine fv_if_lt (tgt := 37) (ft_d o_Mo_costliest 17 rfl) rfl rfl (fun c => ?_) (fun c => ?_)
    · have w := w.1 c
      refine fv_iload_n (ft_d o_Mo_costliest 22 rfl) rfl rfl ?_
      refine fv_istore_n (L' := [some (.inr (.inr 309)), some (.inl x3), some (.inl x2), some (.inl x3), some (.inl z3)]) (ft_d o_Mo_costliest 23 rfl) rfl (Nat.le_of_ble_eq_true rfl) rfl ?_
      refine fv_iload (ft_d o_Mo_costliest 24 rfl) rfl rfl ?_
      refine fv_istore_n (L' := [some (.inr (.inr 309)), some (.inl x3), some (.inl z3), some (.inl x3), some (.inl z3)]) (ft_d o_Mo_costliest 25 rfl) rfl (Nat.le_of_ble_eq_true rfl) rfl ?_
      refine fv_iinc (L' := [some (.inr (.inr 309)), some (.inl x3), some (.inl z3), some (.inl (ft_add x3 1)), some (.inl z3)]) (ft_d o_Mo_costliest 26 rfl) rfl rfl (Nat.le_of_ble_eq_true rfl) rfl ?_
      refine fv_goto (pc' := 7) (ft_d o_Mo_costliest 27 rfl) rfl ?_
      refine fv_mask (M := [true, true, true, true, false]) rfl ?_
      exact w
    · have w := w.2 c
      refine fv_iload (ft_d o_Mo_costliest 18 rfl) rfl rfl ?_
      refine fv_iload_n (ft_d o_Mo_costliest 19 rfl) rfl rfl ?_
      refine fv_icmp_lt (tgt := 37) (ft_d o_Mo_costliest 20 rfl) rfl rfl (fun c => ?_) (fun c => ?_)
      · have w := w.1 c
        refine fv_iload_n (ft_d o_Mo_costliest 22 rfl) rfl rfl ?_
        refine fv_istore_n (L' := [some (.inr (.inr 309)), some (.inl x3), some (.inl x2), some (.inl x3), some (.inl z3)]) (ft_d o_Mo_costliest 23 rfl) rfl (Nat.le_of_ble_eq_true rfl) rfl ?_
        refine fv_iload (ft_d o_Mo_costliest 24 rfl) rfl rfl ?_
        refine fv_istore_n (L' := [some (.inr (.inr 309)), some (.inl x3), some (.inl z3), some (.inl x3), some (.inl z3)]) (ft_d o_Mo_costliest 25 rfl) rfl (Nat.le_of_ble_eq_true rfl) rfl ?_
        refine fv_iinc (L' := [some (.inr (.inr 309)), some (.inl x3), some (.inl z3), some (.inl (ft_add x3 1)), some (.inl z3)]) (ft_d o_Mo_costliest 26 rfl) rfl rfl (Nat.le_of_ble_eq_true rfl) rfl ?_
        refine fv_goto (pc' := 7) (ft_d o_Mo_costliest 27 rfl) rfl ?_
        refine fv_mask (M := [true, true, true, true, false]) rfl ?_
        exact w
      · have w := w.2 c
        refine fv_goto (pc' := 42) (ft_d o_Mo_costliest 21 rfl) rfl ?_
        refine fv_iinc (L' := [some (.inr (.inr 309)), some (.inl x1), some (.inl x2), some (.inl (ft_add x3 1)), some (.inl z3)]) (ft_d o_Mo_costliest 26 rfl) rfl rfl (Nat.le_of_ble_eq_true rfl) rfl ?_
        refine fv_goto (pc' := 7) (ft_d o_Mo_costliest 27 rfl) rfl ?_
        refine fv_mask (M := [true, true, true, true, false]) rfl ?_
        exact w
set_option maxRecDepth 20000 in
theorem b_Mo_count_0 {x1 : Int} {h : ftH} {R : Option ftV → ftH → Prop} 
    (w : ((¬ ((0 : Int) ≤ x1 ∧ x1 ≤ (4 : Int)) → R (some (.inr (.inl ((-1))))) h) ∧ ((0 : Int) ≤ x1 ∧ x1 ≤ (4 : Int) → ((0 ≤ ft_add 4 x1 ∧ ft_add 4 x1 < 520) ∧ R (some (.inr (.inl (h 310 (ft_add 4 x1).toNat)))) h)))) : ft_V k_Mo_count 0 [some (.inr (.inr 309)), some (.inl x1)] [] h R := by
  refine fv_iload_n (ft_d o_Mo_count 0 rfl) rfl rfl ?_
  refine fv_i2l (ft_d o_Mo_count 1 rfl) rfl ?_
  refine fv_lconst (z := 0) (ft_d o_Mo_count 2 rfl) rfl rfl ?_
  refine fv_ldc2 (v := 4) (z := 4) (ft_d o_Mo_count 3 rfl) rfl (ft_gt 1198 (by decide +kernel) rfl) rfl ?_
  refine fv_callif (st := []) (z := (if (0 : Int) ≤ x1 ∧ x1 ≤ (4 : Int) then 1 else 0)) (Or.inr rfl) rfl (ft_mm (pre := [.inr (.inl 4), .inr (.inl 0), .inr (.inl x1)]) rfl) (ft_rnS (K' := k_Mo_in) (As := [.inr (.inl x1), .inr (.inl 0), .inr (.inl 4)]) (ft_d o_Mo_count 4 rfl) ml_Mo_106 lz_Mo_in rfl lw_Mo_in ⟨rfl, rfl, Nat.le_of_ble_eq_true rfl, Nat.le_of_ble_eq_true rfl⟩ rfl rfl (Nat.le_of_ble_eq_true rfl) (c_Mo_in)) ?_
  refine fv_if_eq (tgt := 24) (ft_d o_Mo_count 5 rfl) rfl rfl (fun c => ?_) (fun c => ?_)
  · have w := w.1 (ft_if0.mp c)
    refine fv_ldc2 (v := (-1)) (z := (-1)) (ft_d o_Mo_count 14 rfl) rfl (ft_gt 1202 (by decide +kernel) rfl) rfl ?_
    exact fv_lreturn (ft_d o_Mo_count 15 rfl) rfl w
  · have w := w.2 (ft_if1.mp c)
    refine fv_aload_n (ft_d o_Mo_count 6 rfl) rfl rfl ?_
    refine fv_getR (b := 310) (ft_d o_Mo_count 7 rfl) rfl fl_Mo_13 sh_309 rfl ly_309_1 ?_
    refine fv_iconst (ft_d o_Mo_count 8 rfl) rfl rfl ?_
    refine fv_iload_n (ft_d o_Mo_count 9 rfl) rfl rfl ?_
    refine fv_iadd (ft_d o_Mo_count 10 rfl) rfl ?_
    refine fv_iald (ft_d o_Mo_count 11 rfl) rfl sh_310 w.1 ?_
    have w := w.2
    refine fv_i2l (ft_d o_Mo_count 12 rfl) rfl ?_
    refine fv_goto (pc' := 27) (ft_d o_Mo_count 13 rfl) rfl ?_
    exact fv_lreturn (ft_d o_Mo_count 15 rfl) rfl w
set_option maxRecDepth 20000 in
theorem b_Mo_writesSign_0 {x1 : Int} {h : ftH} {R : Option ftV → ftH → Prop} 
    (w : ((0 ≤ h 309 32 ∧ h 309 32 < 2400) ∧ (∀ h1 : ftH, h1 = ft_hs h 329 (h 309 32).toNat x1 → (∀ h2 : ftH, h2 = ft_hs h1 309 32 (ft_add (h1 309 32) 1) → R none h2)))) : ft_V k_Mo_writesSign 0 [some (.inr (.inr 309)), some (.inl x1)] [] h R := by
  refine fv_aload_n (ft_d o_Mo_writesSign 0 rfl) rfl rfl ?_
  refine fv_getR (b := 329) (ft_d o_Mo_writesSign 1 rfl) rfl fl_Mo_71 sh_309 rfl ly_309_31 ?_
  refine fv_aload_n (ft_d o_Mo_writesSign 2 rfl) rfl rfl ?_
  refine fv_getI (ft_d o_Mo_writesSign 3 rfl) rfl fl_Mo_358 sh_309 rfl ?_
  refine fv_iload_n (ft_d o_Mo_writesSign 4 rfl) rfl rfl ?_
  refine fv_iast (ft_d o_Mo_writesSign 5 rfl) rfl sh_329 w.1 ?_
  have w := w.2
  generalize eh1 : ft_hs h 329 (h 309 32).toNat x1 = h1
  have w := w h1 eh1.symm
  refine fv_aload_n (ft_d o_Mo_writesSign 6 rfl) rfl rfl ?_
  refine fv_dup (ft_d o_Mo_writesSign 7 rfl) rfl rfl ?_
  refine fv_getI (ft_d o_Mo_writesSign 8 rfl) rfl fl_Mo_358 sh_309 rfl ?_
  refine fv_iconst (ft_d o_Mo_writesSign 9 rfl) rfl rfl ?_
  refine fv_iadd (ft_d o_Mo_writesSign 10 rfl) rfl ?_
  refine fv_putI (ft_d o_Mo_writesSign 11 rfl) rfl fl_Mo_358 rfl rfl sh_309 rfl ?_
  generalize eh2 : ft_hs h1 309 32 (ft_add (h1 309 32) 1) = h2
  have w := w h2 eh2.symm
  exact fv_return (ft_d o_Mo_writesSign 12 rfl) rfl w
set_option maxRecDepth 20000 in
theorem b_Mo_writesNumber_0 {x1 : Int} {h : ftH} {R : Option ftV → ftH → Prop} 
    (w : ft_V k_Mo_writesNumber 2 [some (.inr (.inr 309)), some (.inl x1), some (.inl 1)] [] h R) : ft_V k_Mo_writesNumber 0 [some (.inr (.inr 309)), some (.inl x1), none] [] h R := by
  refine fv_iconst (ft_d o_Mo_writesNumber 0 rfl) rfl rfl ?_
  refine fv_istore_n (L' := [some (.inr (.inr 309)), some (.inl x1), some (.inl 1)]) (ft_d o_Mo_writesNumber 1 rfl) rfl (Nat.le_of_ble_eq_true rfl) rfl ?_
  exact w
set_option maxRecDepth 20000 in
theorem b_Mo_writesNumber_2 {x1 : Int} {x2 : Int} {h : ftH} {R : Option ftV → ftH → Prop} 
    (w : (¬ x2 = 0) ∧ (((ft_div x1 x2 ≤ 9 → ft_V k_Mo_writesNumber 18 [some (.inr (.inr 309)), some (.inl x1), some (.inl x2)] [] h R) ∧ (¬ (ft_div x1 x2 ≤ 9) → (∀ n1 : Int, n1 = ft_mul x2 10 → ft_V k_Mo_writesNumber 2 [some (.inr (.inr 309)), some (.inl x1), some (.inl n1)] [] h R))))) : ft_V k_Mo_writesNumber 2 [some (.inr (.inr 309)), some (.inl x1), some (.inl x2)] [] h R := by
  refine fv_iload_n (ft_d o_Mo_writesNumber 2 rfl) rfl rfl ?_
  refine fv_iload_n (ft_d o_Mo_writesNumber 3 rfl) rfl rfl ?_
  refine fv_idiv (ft_d o_Mo_writesNumber 4 rfl) rfl w.1 ?_
  have w := w.2
  refine fv_bipush (ft_d o_Mo_writesNumber 5 rfl) rfl rfl ?_
  refine fv_icmp_le (tgt := 18) (ft_d o_Mo_writesNumber 6 rfl) rfl rfl (fun c => ?_) (fun c => ?_)
  · have w := w.1 c
    exact w
  · have w := w.2 c
    refine fv_iload_n (ft_d o_Mo_writesNumber 7 rfl) rfl rfl ?_
    refine fv_bipush (ft_d o_Mo_writesNumber 8 rfl) rfl rfl ?_
    refine fv_imul (ft_d o_Mo_writesNumber 9 rfl) rfl ?_
    generalize en1 : ft_mul x2 10 = n1
    have w := w n1 en1.symm
    refine fv_istore_n (L' := [some (.inr (.inr 309)), some (.inl x1), some (.inl n1)]) (ft_d o_Mo_writesNumber 10 rfl) rfl (Nat.le_of_ble_eq_true rfl) rfl ?_
    refine fv_goto (pc' := 2) (ft_d o_Mo_writesNumber 11 rfl) rfl ?_
    exact w
set_option maxRecDepth 20000 in
theorem b_Mo_writesNumber_18 {x1 : Int} {x2 : Int} {h : ftH} {R : Option ftV → ftH → Prop} 
    (w : ((x2 ≤ 0 → R none h) ∧ (¬ (x2 ≤ 0) → (¬ x2 = 0) ∧ ((∃ R1 : Option ftV → ftH → Prop, ft_C k_Mo_writesSign [.inr (.inr 309), .inl (ft_add 48 (ft_rem (ft_div x1 x2) 10))] h R1 ∧ ∀ h1 : ftH, R1 none h1 → (∀ n3 : Int, n3 = ft_div x2 10 → ft_V k_Mo_writesNumber 18 [some (.inr (.inr 309)), some (.inl x1), some (.inl n3)] [] h1 R)))))) : ft_V k_Mo_writesNumber 18 [some (.inr (.inr 309)), some (.inl x1), some (.inl x2)] [] h R := by
  refine fv_iload_n (ft_d o_Mo_writesNumber 12 rfl) rfl rfl ?_
  refine fv_if_le (tgt := 43) (ft_d o_Mo_writesNumber 13 rfl) rfl rfl (fun c => ?_) (fun c => ?_)
  · have w := w.1 c
    exact fv_return (ft_d o_Mo_writesNumber 28 rfl) rfl w
  · have w := w.2 c
    refine fv_aload_n (ft_d o_Mo_writesNumber 14 rfl) rfl rfl ?_
    refine fv_bipush (ft_d o_Mo_writesNumber 15 rfl) rfl rfl ?_
    refine fv_iload_n (ft_d o_Mo_writesNumber 16 rfl) rfl rfl ?_
    refine fv_iload_n (ft_d o_Mo_writesNumber 17 rfl) rfl rfl ?_
    refine fv_idiv (ft_d o_Mo_writesNumber 18 rfl) rfl w.1 ?_
    have w := w.2
    refine fv_bipush (ft_d o_Mo_writesNumber 19 rfl) rfl rfl ?_
    refine fv_irem (ft_d o_Mo_writesNumber 20 rfl) rfl (by decide) ?_
    refine fv_iadd (ft_d o_Mo_writesNumber 21 rfl) rfl ?_
    obtain ⟨R1, c2, w⟩ := w
    refine fv_callv (st := []) rfl rfl (ft_mm (pre := [.inl (ft_add 48 (ft_rem (ft_div x1 x2) 10)), .inr (.inr 309)]) rfl) (ft_rnV (K' := k_Mo_writesSign) (As := [.inl (ft_add 48 (ft_rem (ft_div x1 x2) 10))]) (ft_d o_Mo_writesNumber 22 rfl) ml_Mo_361 li_Mo_writesSign.1 li_Mo_writesSign.2 lw_Mo_writesSign ⟨rfl, rfl, Nat.le_of_ble_eq_true rfl, Nat.le_of_ble_eq_true rfl⟩ sh_309 rfl rfl rfl rfl (Nat.le_of_ble_eq_true rfl) c2) (fun h1 hw => ?_)
    have w := w h1 hw
    refine fv_iload_n (ft_d o_Mo_writesNumber 23 rfl) rfl rfl ?_
    refine fv_bipush (ft_d o_Mo_writesNumber 24 rfl) rfl rfl ?_
    refine fv_idiv (ft_d o_Mo_writesNumber 25 rfl) rfl (by decide) ?_
    generalize en3 : ft_div x2 10 = n3
    have w := w n3 en3.symm
    refine fv_istore_n (L' := [some (.inr (.inr 309)), some (.inl x1), some (.inl n3)]) (ft_d o_Mo_writesNumber 26 rfl) rfl (Nat.le_of_ble_eq_true rfl) rfl ?_
    refine fv_goto (pc' := 18) (ft_d o_Mo_writesNumber 27 rfl) rfl ?_
    exact w
set_option maxRecDepth 20000 in
theorem b_Mo_writesAddress_0 {x1 : Int} {h : ftH} {R : Option ftV → ftH → Prop} 
    (w : ft_V k_Mo_writesAddress 3 [some (.inr (.inr 309)), some (.inl x1), some (.inl 24)] [] h R) : ft_V k_Mo_writesAddress 0 [some (.inr (.inr 309)), some (.inl x1), none] [] h R := by
  refine fv_bipush (ft_d o_Mo_writesAddress 0 rfl) rfl rfl ?_
  refine fv_istore_n (L' := [some (.inr (.inr 309)), some (.inl x1), some (.inl 24)]) (ft_d o_Mo_writesAddress 1 rfl) rfl (Nat.le_of_ble_eq_true rfl) rfl ?_
  exact w
set_option maxRecDepth 20000 in
theorem b_Mo_writesAddress_3 {x1 : Int} {x2 : Int} {h : ftH} {R : Option ftV → ftH → Prop} 
    (w : ((x2 < 0 → R none h) ∧ (¬ (x2 < 0) → (∃ R1 : Option ftV → ftH → Prop, ft_C k_Mo_writesNumber [.inr (.inr 309), .inl (ft_and (ft_shr x1 x2) 255)] h R1 ∧ ∀ h1 : ftH, R1 none h1 → ((x2 ≤ 0 → ft_V k_Mo_writesAddress 3 [some (.inr (.inr 309)), some (.inl x1), some (.inl (ft_add x2 (-8)))] [] h1 R) ∧ (¬ (x2 ≤ 0) → (∃ R3 : Option ftV → ftH → Prop, ft_C k_Mo_writesSign [.inr (.inr 309), .inl 46] h1 R3 ∧ ∀ h2 : ftH, R3 none h2 → ft_V k_Mo_writesAddress 3 [some (.inr (.inr 309)), some (.inl x1), some (.inl (ft_add x2 (-8)))] [] h2 R))))))) : ft_V k_Mo_writesAddress 3 [some (.inr (.inr 309)), some (.inl x1), some (.inl x2)] [] h R := by
  refine fv_iload_n (ft_d o_Mo_writesAddress 2 rfl) rfl rfl ?_
  refine fv_if_lt (tgt := 34) (ft_d o_Mo_writesAddress 3 rfl) rfl rfl (fun c => ?_) (fun c => ?_)
  · have w := w.1 c
    exact fv_return (ft_d o_Mo_writesAddress 18 rfl) rfl w
  · have w := w.2 c
    refine fv_aload_n (ft_d o_Mo_writesAddress 4 rfl) rfl rfl ?_
    refine fv_iload_n (ft_d o_Mo_writesAddress 5 rfl) rfl rfl ?_
    refine fv_iload_n (ft_d o_Mo_writesAddress 6 rfl) rfl rfl ?_
    refine fv_ishr (ft_d o_Mo_writesAddress 7 rfl) rfl ?_
    refine fv_sipush (ft_d o_Mo_writesAddress 8 rfl) rfl rfl ?_
    refine fv_iand (ft_d o_Mo_writesAddress 9 rfl) rfl ?_
    obtain ⟨R1, c2, w⟩ := w
    refine fv_callv (st := []) rfl rfl (ft_mm (pre := [.inl (ft_and (ft_shr x1 x2) 255), .inr (.inr 309)]) rfl) (ft_rnV (K' := k_Mo_writesNumber) (As := [.inl (ft_and (ft_shr x1 x2) 255)]) (ft_d o_Mo_writesAddress 10 rfl) ml_Mo_364 li_Mo_writesNumber.1 li_Mo_writesNumber.2 lw_Mo_writesNumber ⟨rfl, rfl, Nat.le_of_ble_eq_true rfl, Nat.le_of_ble_eq_true rfl⟩ sh_309 rfl rfl rfl rfl (Nat.le_of_ble_eq_true rfl) c2) (fun h1 hw => ?_)
    have w := w h1 hw
    refine fv_iload_n (ft_d o_Mo_writesAddress 11 rfl) rfl rfl ?_
    refine fv_if_le (tgt := 28) (ft_d o_Mo_writesAddress 12 rfl) rfl rfl (fun c => ?_) (fun c => ?_)
    · have w := w.1 c
      refine fv_iinc (L' := [some (.inr (.inr 309)), some (.inl x1), some (.inl (ft_add x2 (-8)))]) (ft_d o_Mo_writesAddress 16 rfl) rfl rfl (Nat.le_of_ble_eq_true rfl) rfl ?_
      refine fv_goto (pc' := 3) (ft_d o_Mo_writesAddress 17 rfl) rfl ?_
      exact w
    · have w := w.2 c
      refine fv_aload_n (ft_d o_Mo_writesAddress 13 rfl) rfl rfl ?_
      refine fv_bipush (ft_d o_Mo_writesAddress 14 rfl) rfl rfl ?_
      obtain ⟨R3, c4, w⟩ := w
      refine fv_callv (st := []) rfl rfl (ft_mm (pre := [.inl 46, .inr (.inr 309)]) rfl) (ft_rnV (K' := k_Mo_writesSign) (As := [.inl 46]) (ft_d o_Mo_writesAddress 15 rfl) ml_Mo_361 li_Mo_writesSign.1 li_Mo_writesSign.2 lw_Mo_writesSign ⟨rfl, rfl, Nat.le_of_ble_eq_true rfl, Nat.le_of_ble_eq_true rfl⟩ sh_309 rfl rfl rfl rfl (Nat.le_of_ble_eq_true rfl) c4) (fun h2 hw => ?_)
      have w := w h2 hw
      refine fv_iinc (L' := [some (.inr (.inr 309)), some (.inl x1), some (.inl (ft_add x2 (-8)))]) (ft_d o_Mo_writesAddress 16 rfl) rfl rfl (Nat.le_of_ble_eq_true rfl) rfl ?_
      refine fv_goto (pc' := 3) (ft_d o_Mo_writesAddress 17 rfl) rfl ?_
      exact w
set_option maxRecDepth 20000 in
theorem b_Mo_writesLine_0 {x1 : Int} {x2 : Int} {x3 : Int} {h : ftH} {R : Option ftV → ftH → Prop} 
    (w : (∃ R1 : Option ftV → ftH → Prop, ft_C k_Mo_writesAddress [.inr (.inr 309), .inl x1] h R1 ∧ ∀ h1 : ftH, R1 none h1 → (∃ R3 : Option ftV → ftH → Prop, ft_C k_Mo_writesSign [.inr (.inr 309), .inl 47] h1 R3 ∧ ∀ h2 : ftH, R3 none h2 → (∃ R5 : Option ftV → ftH → Prop, ft_C k_Mo_writesNumber [.inr (.inr 309), .inl x2] h2 R5 ∧ ∀ h3 : ftH, R5 none h3 → (∃ R7 : Option ftV → ftH → Prop, ft_C k_Mo_writesSign [.inr (.inr 309), .inl 32] h3 R7 ∧ ∀ h4 : ftH, R7 none h4 → ((¬ (x3 = 16) → (∃ R9 : Option ftV → ftH → Prop, ft_C k_Mo_writesNumber [.inr (.inr 309), .inl x3] h4 R9 ∧ ∀ h5 : ftH, R9 none h5 → (∃ R11 : Option ftV → ftH → Prop, ft_C k_Mo_writesSign [.inr (.inr 309), .inl 10] h5 R11 ∧ ∀ h6 : ftH, R11 none h6 → R none h6))) ∧ (x3 = 16 → (∃ R13 : Option ftV → ftH → Prop, ft_C k_Mo_writesSign [.inr (.inr 309), .inl 120] h4 R13 ∧ ∀ h7 : ftH, R13 none h7 → (∃ R15 : Option ftV → ftH → Prop, ft_C k_Mo_writesSign [.inr (.inr 309), .inl 10] h7 R15 ∧ ∀ h8 : ftH, R15 none h8 → R none h8))))))))) : ft_V k_Mo_writesLine 0 [some (.inr (.inr 309)), some (.inl x1), some (.inl x2), some (.inl x3)] [] h R := by
  refine fv_aload_n (ft_d o_Mo_writesLine 0 rfl) rfl rfl ?_
  refine fv_iload_n (ft_d o_Mo_writesLine 1 rfl) rfl rfl ?_
  obtain ⟨R1, c2, w⟩ := w
  refine fv_callv (st := []) rfl rfl (ft_mm (pre := [.inl x1, .inr (.inr 309)]) rfl) (ft_rnV (K' := k_Mo_writesAddress) (As := [.inl x1]) (ft_d o_Mo_writesLine 2 rfl) ml_Mo_367 li_Mo_writesAddress.1 li_Mo_writesAddress.2 lw_Mo_writesAddress ⟨rfl, rfl, Nat.le_of_ble_eq_true rfl, Nat.le_of_ble_eq_true rfl⟩ sh_309 rfl rfl rfl rfl (Nat.le_of_ble_eq_true rfl) c2) (fun h1 hw => ?_)
  have w := w h1 hw
  refine fv_aload_n (ft_d o_Mo_writesLine 3 rfl) rfl rfl ?_
  refine fv_bipush (ft_d o_Mo_writesLine 4 rfl) rfl rfl ?_
  obtain ⟨R3, c4, w⟩ := w
  refine fv_callv (st := []) rfl rfl (ft_mm (pre := [.inl 47, .inr (.inr 309)]) rfl) (ft_rnV (K' := k_Mo_writesSign) (As := [.inl 47]) (ft_d o_Mo_writesLine 5 rfl) ml_Mo_361 li_Mo_writesSign.1 li_Mo_writesSign.2 lw_Mo_writesSign ⟨rfl, rfl, Nat.le_of_ble_eq_true rfl, Nat.le_of_ble_eq_true rfl⟩ sh_309 rfl rfl rfl rfl (Nat.le_of_ble_eq_true rfl) c4) (fun h2 hw => ?_)
  have w := w h2 hw
  refine fv_aload_n (ft_d o_Mo_writesLine 6 rfl) rfl rfl ?_
  refine fv_iload_n (ft_d o_Mo_writesLine 7 rfl) rfl rfl ?_
  obtain ⟨R5, c6, w⟩ := w
  refine fv_callv (st := []) rfl rfl (ft_mm (pre := [.inl x2, .inr (.inr 309)]) rfl) (ft_rnV (K' := k_Mo_writesNumber) (As := [.inl x2]) (ft_d o_Mo_writesLine 8 rfl) ml_Mo_364 li_Mo_writesNumber.1 li_Mo_writesNumber.2 lw_Mo_writesNumber ⟨rfl, rfl, Nat.le_of_ble_eq_true rfl, Nat.le_of_ble_eq_true rfl⟩ sh_309 rfl rfl rfl rfl (Nat.le_of_ble_eq_true rfl) c6) (fun h3 hw => ?_)
  have w := w h3 hw
  refine fv_aload_n (ft_d o_Mo_writesLine 9 rfl) rfl rfl ?_
  refine fv_bipush (ft_d o_Mo_writesLine 10 rfl) rfl rfl ?_
  obtain ⟨R7, c8, w⟩ := w
  refine fv_callv (st := []) rfl rfl (ft_mm (pre := [.inl 32, .inr (.inr 309)]) rfl) (ft_rnV (K' := k_Mo_writesSign) (As := [.inl 32]) (ft_d o_Mo_writesLine 11 rfl) ml_Mo_361 li_Mo_writesSign.1 li_Mo_writesSign.2 lw_Mo_writesSign ⟨rfl, rfl, Nat.le_of_ble_eq_true rfl, Nat.le_of_ble_eq_true rfl⟩ sh_309 rfl rfl rfl rfl (Nat.le_of_ble_eq_true rfl) c8) (fun h4 hw => ?_)
  have w := w h4 hw
  refine fv_iload_n (ft_d o_Mo_writesLine 12 rfl) rfl rfl ?_
  refine fv_bipush (ft_d o_Mo_writesLine 13 rfl) rfl rfl ?_
  refine fv_icmp_ne (tgt := 37) (ft_d o_Mo_writesLine 14 rfl) rfl rfl (fun c => ?_) (fun c => ?_)
  · have w := w.1 c
    refine fv_aload_n (ft_d o_Mo_writesLine 19 rfl) rfl rfl ?_
    refine fv_iload_n (ft_d o_Mo_writesLine 20 rfl) rfl rfl ?_
    obtain ⟨R9, c10, w⟩ := w
    refine fv_callv (st := []) rfl rfl (ft_mm (pre := [.inl x3, .inr (.inr 309)]) rfl) (ft_rnV (K' := k_Mo_writesNumber) (As := [.inl x3]) (ft_d o_Mo_writesLine 21 rfl) ml_Mo_364 li_Mo_writesNumber.1 li_Mo_writesNumber.2 lw_Mo_writesNumber ⟨rfl, rfl, Nat.le_of_ble_eq_true rfl, Nat.le_of_ble_eq_true rfl⟩ sh_309 rfl rfl rfl rfl (Nat.le_of_ble_eq_true rfl) c10) (fun h5 hw => ?_)
    have w := w h5 hw
    refine fv_aload_n (ft_d o_Mo_writesLine 22 rfl) rfl rfl ?_
    refine fv_bipush (ft_d o_Mo_writesLine 23 rfl) rfl rfl ?_
    obtain ⟨R11, c12, w⟩ := w
    refine fv_callv (st := []) rfl rfl (ft_mm (pre := [.inl 10, .inr (.inr 309)]) rfl) (ft_rnV (K' := k_Mo_writesSign) (As := [.inl 10]) (ft_d o_Mo_writesLine 24 rfl) ml_Mo_361 li_Mo_writesSign.1 li_Mo_writesSign.2 lw_Mo_writesSign ⟨rfl, rfl, Nat.le_of_ble_eq_true rfl, Nat.le_of_ble_eq_true rfl⟩ sh_309 rfl rfl rfl rfl (Nat.le_of_ble_eq_true rfl) c12) (fun h6 hw => ?_)
    have w := w h6 hw
    exact fv_return (ft_d o_Mo_writesLine 25 rfl) rfl w
  · have w := w.2 c
    refine fv_aload_n (ft_d o_Mo_writesLine 15 rfl) rfl rfl ?_
    refine fv_bipush (ft_d o_Mo_writesLine 16 rfl) rfl rfl ?_
    obtain ⟨R13, c14, w⟩ := w
    refine fv_callv (st := []) rfl rfl (ft_mm (pre := [.inl 120, .inr (.inr 309)]) rfl) (ft_rnV (K' := k_Mo_writesSign) (As := [.inl 120]) (ft_d o_Mo_writesLine 17 rfl) ml_Mo_361 li_Mo_writesSign.1 li_Mo_writesSign.2 lw_Mo_writesSign ⟨rfl, rfl, Nat.le_of_ble_eq_true rfl, Nat.le_of_ble_eq_true rfl⟩ sh_309 rfl rfl rfl rfl (Nat.le_of_ble_eq_true rfl) c14) (fun h7 hw => ?_)
    have w := w h7 hw
    refine fv_goto (pc' := 42) (ft_d o_Mo_writesLine 18 rfl) rfl ?_
    refine fv_aload_n (ft_d o_Mo_writesLine 22 rfl) rfl rfl ?_
    refine fv_bipush (ft_d o_Mo_writesLine 23 rfl) rfl rfl ?_
    obtain ⟨R15, c16, w⟩ := w
    refine fv_callv (st := []) rfl rfl (ft_mm (pre := [.inl 10, .inr (.inr 309)]) rfl) (ft_rnV (K' := k_Mo_writesSign) (As := [.inl 10]) (ft_d o_Mo_writesLine 24 rfl) ml_Mo_361 li_Mo_writesSign.1 li_Mo_writesSign.2 lw_Mo_writesSign ⟨rfl, rfl, Nat.le_of_ble_eq_true rfl, Nat.le_of_ble_eq_true rfl⟩ sh_309 rfl rfl rfl rfl (Nat.le_of_ble_eq_true rfl) c16) (fun h8 hw => ?_)
    have w := w h8 hw
    exact fv_return (ft_d o_Mo_writesLine 25 rfl) rfl w
set_option maxRecDepth 20000 in
theorem b_Mo_writesReport_0 {x1 : Int} {h : ftH} {R : Option ftV → ftH → Prop} 
    (w : (∀ h1 : ftH, h1 = ft_hs h 309 32 0 → (∃ R1 : Option ftV → ftH → Prop, ft_C k_Mo_laysTarget [.inr (.inr 309)] h1 R1 ∧ ∀ h2 : ftH, R1 none h2 → ft_V k_Mo_writesReport 11 [some (.inr (.inr 309)), some (.inl x1), some (.inl 0)] [] h2 R))) : ft_V k_Mo_writesReport 0 [some (.inr (.inr 309)), some (.inl x1), none] [] h R := by
  refine fv_aload_n (ft_d o_Mo_writesReport 0 rfl) rfl rfl ?_
  refine fv_iconst (ft_d o_Mo_writesReport 1 rfl) rfl rfl ?_
  refine fv_putI (ft_d o_Mo_writesReport 2 rfl) rfl fl_Mo_358 rfl rfl sh_309 rfl ?_
  generalize eh1 : ft_hs h 309 32 0 = h1
  have w := w h1 eh1.symm
  refine fv_aload_n (ft_d o_Mo_writesReport 3 rfl) rfl rfl ?_
  obtain ⟨R1, c2, w⟩ := w
  refine fv_callv (st := []) rfl rfl (ft_mm (pre := [.inr (.inr 309)]) rfl) (ft_rnV (K' := k_Mo_laysTarget) (As := []) (ft_d o_Mo_writesReport 4 rfl) ml_Mo_295 li_Mo_laysTarget.1 li_Mo_laysTarget.2 lw_Mo_laysTarget ⟨rfl, rfl, Nat.le_of_ble_eq_true rfl, Nat.le_of_ble_eq_true rfl⟩ sh_309 rfl rfl rfl rfl (Nat.le_of_ble_eq_true rfl) c2) (fun h2 hw => ?_)
  have w := w h2 hw
  refine fv_iconst (ft_d o_Mo_writesReport 5 rfl) rfl rfl ?_
  refine fv_istore_n (L' := [some (.inr (.inr 309)), some (.inl x1), some (.inl 0)]) (ft_d o_Mo_writesReport 6 rfl) rfl (Nat.le_of_ble_eq_true rfl) rfl ?_
  exact w
set_option maxRecDepth 20000 in
theorem b_Mo_writesReport_11 {x1 : Int} {x2 : Int} {h : ftH} {R : Option ftV → ftH → Prop} 
    (w : ((h 310 0 ≤ x2 → ft_V k_Mo_writesReport 50 [some (.inr (.inr 309)), some (.inl x1), none] [] h R) ∧ (¬ (h 310 0 ≤ x2) → ((¬ (x1 = 0) → ft_V k_Mo_writesReport 50 [some (.inr (.inr 309)), some (.inl x1), none] [] h R) ∧ (x1 = 0 → ((0 ≤ x2 ∧ x2 < 60) ∧ ((0 ≤ x2 ∧ x2 < 60) ∧ ((0 ≤ x2 ∧ x2 < 60) ∧ (∃ R7 : Option ftV → ftH → Prop, ft_C k_Mo_writesLine [.inr (.inr 309), .inl (h 310 (10 + 3 * x2.toNat)), .inl (h 310 (11 + 3 * x2.toNat)), .inl (h 310 (12 + 3 * x2.toNat))] h R7 ∧ ∀ h1 : ftH, R7 none h1 → ft_V k_Mo_writesReport 11 [some (.inr (.inr 309)), some (.inl x1), some (.inl (ft_add x2 1))] [] h1 R))))))))) : ft_V k_Mo_writesReport 11 [some (.inr (.inr 309)), some (.inl x1), some (.inl x2)] [] h R := by
  refine fv_iload_n (ft_d o_Mo_writesReport 7 rfl) rfl rfl ?_
  refine fv_aload_n (ft_d o_Mo_writesReport 8 rfl) rfl rfl ?_
  refine fv_getR (b := 310) (ft_d o_Mo_writesReport 9 rfl) rfl fl_Mo_13 sh_309 rfl ly_309_1 ?_
  refine fv_iconst (ft_d o_Mo_writesReport 10 rfl) rfl rfl ?_
  refine fv_ialdj (j := 0) (ft_d o_Mo_writesReport 11 rfl) rfl sh_310 ⟨by decide, by decide⟩ rfl ?_
  refine fv_icmp_ge (tgt := 50) (ft_d o_Mo_writesReport 12 rfl) rfl rfl (fun c => ?_) (fun c => ?_)
  · have w := w.1 c
    refine fv_mask (M := [true, true, false]) rfl ?_
    exact w
  · have w := w.2 c
    refine fv_iload_n (ft_d o_Mo_writesReport 13 rfl) rfl rfl ?_
    refine fv_if_ne (tgt := 50) (ft_d o_Mo_writesReport 14 rfl) rfl rfl (fun c => ?_) (fun c => ?_)
    · have w := w.1 c
      refine fv_mask (M := [true, true, false]) rfl ?_
      exact w
    · have w := w.2 c
      refine fv_aload_n (ft_d o_Mo_writesReport 15 rfl) rfl rfl ?_
      refine fv_aload_n (ft_d o_Mo_writesReport 16 rfl) rfl rfl ?_
      refine fv_iload_n (ft_d o_Mo_writesReport 17 rfl) rfl rfl ?_
      refine fv_callif (st := [.inr (.inr 309)]) (z := h 310 (10 + 3 * x2.toNat)) (Or.inl rfl) rfl (ft_mm (pre := [.inl x2, .inr (.inr 309)]) rfl) (ft_rnV (K' := k_Mo_valueOf) (As := [.inl x2]) (ft_d o_Mo_writesReport 18 rfl) ml_Mo_131 li_Mo_valueOf.1 li_Mo_valueOf.2 lw_Mo_valueOf ⟨rfl, rfl, Nat.le_of_ble_eq_true rfl, Nat.le_of_ble_eq_true rfl⟩ sh_309 rfl rfl rfl rfl (Nat.le_of_ble_eq_true rfl) (c_Mo_valueOf w.1)) ?_
      have w := w.2
      refine fv_aload_n (ft_d o_Mo_writesReport 19 rfl) rfl rfl ?_
      refine fv_iload_n (ft_d o_Mo_writesReport 20 rfl) rfl rfl ?_
      refine fv_callif (st := [.inl (h 310 (10 + 3 * x2.toNat)), .inr (.inr 309)]) (z := h 310 (11 + 3 * x2.toNat)) (Or.inl rfl) rfl (ft_mm (pre := [.inl x2, .inr (.inr 309)]) rfl) (ft_rnV (K' := k_Mo_lengthOf) (As := [.inl x2]) (ft_d o_Mo_writesReport 21 rfl) ml_Mo_134 li_Mo_lengthOf.1 li_Mo_lengthOf.2 lw_Mo_lengthOf ⟨rfl, rfl, Nat.le_of_ble_eq_true rfl, Nat.le_of_ble_eq_true rfl⟩ sh_309 rfl rfl rfl rfl (Nat.le_of_ble_eq_true rfl) (c_Mo_lengthOf w.1)) ?_
      have w := w.2
      refine fv_aload_n (ft_d o_Mo_writesReport 22 rfl) rfl rfl ?_
      refine fv_iload_n (ft_d o_Mo_writesReport 23 rfl) rfl rfl ?_
      refine fv_callif (st := [.inl (h 310 (11 + 3 * x2.toNat)), .inl (h 310 (10 + 3 * x2.toNat)), .inr (.inr 309)]) (z := h 310 (12 + 3 * x2.toNat)) (Or.inl rfl) rfl (ft_mm (pre := [.inl x2, .inr (.inr 309)]) rfl) (ft_rnV (K' := k_Mo_hopOf) (As := [.inl x2]) (ft_d o_Mo_writesReport 24 rfl) ml_Mo_128 li_Mo_hopOf.1 li_Mo_hopOf.2 lw_Mo_hopOf ⟨rfl, rfl, Nat.le_of_ble_eq_true rfl, Nat.le_of_ble_eq_true rfl⟩ sh_309 rfl rfl rfl rfl (Nat.le_of_ble_eq_true rfl) (c_Mo_hopOf w.1)) ?_
      have w := w.2
      obtain ⟨R7, c8, w⟩ := w
      refine fv_callv (st := []) rfl rfl (ft_mm (pre := [.inl (h 310 (12 + 3 * x2.toNat)), .inl (h 310 (11 + 3 * x2.toNat)), .inl (h 310 (10 + 3 * x2.toNat)), .inr (.inr 309)]) rfl) (ft_rnV (K' := k_Mo_writesLine) (As := [.inl (h 310 (10 + 3 * x2.toNat)), .inl (h 310 (11 + 3 * x2.toNat)), .inl (h 310 (12 + 3 * x2.toNat))]) (ft_d o_Mo_writesReport 25 rfl) ml_Mo_370 li_Mo_writesLine.1 li_Mo_writesLine.2 lw_Mo_writesLine ⟨rfl, rfl, Nat.le_of_ble_eq_true rfl, Nat.le_of_ble_eq_true rfl⟩ sh_309 rfl rfl rfl rfl (Nat.le_of_ble_eq_true rfl) c8) (fun h1 hw => ?_)
      have w := w h1 hw
      refine fv_iinc (L' := [some (.inr (.inr 309)), some (.inl x1), some (.inl (ft_add x2 1))]) (ft_d o_Mo_writesReport 26 rfl) rfl rfl (Nat.le_of_ble_eq_true rfl) rfl ?_
      refine fv_goto (pc' := 11) (ft_d o_Mo_writesReport 27 rfl) rfl ?_
      exact w
set_option maxRecDepth 20000 in
theorem b_Mo_writesReport_50 {x1 : Int} {h : ftH} {R : Option ftV → ftH → Prop} 
    (w : ft_V k_Mo_writesReport 52 [some (.inr (.inr 309)), some (.inl x1), some (.inl 0)] [] h R) : ft_V k_Mo_writesReport 50 [some (.inr (.inr 309)), some (.inl x1), none] [] h R := by
  refine fv_iconst (ft_d o_Mo_writesReport 28 rfl) rfl rfl ?_
  refine fv_istore_n (L' := [some (.inr (.inr 309)), some (.inl x1), some (.inl 0)]) (ft_d o_Mo_writesReport 29 rfl) rfl (Nat.le_of_ble_eq_true rfl) rfl ?_
  exact w
set_option maxRecDepth 20000 in
theorem b_Mo_writesReport_52 {x1 : Int} {x2 : Int} {h : ftH} {R : Option ftV → ftH → Prop} 
    (w : ((h 309 14 ≤ x2 → ft_V k_Mo_writesReport 93 [some (.inr (.inr 309)), some (.inl x1), none] [] h R) ∧ (¬ (h 309 14 ≤ x2) → ((¬ (x1 = 1) → ft_V k_Mo_writesReport 93 [some (.inr (.inr 309)), some (.inl x1), none] [] h R) ∧ (x1 = 1 → ((0 ≤ x2 ∧ x2 < 64) ∧ ((0 ≤ x2 ∧ x2 < 64) ∧ ((0 ≤ x2 ∧ x2 < 64) ∧ (∃ R1 : Option ftV → ftH → Prop, ft_C k_Mo_writesLine [.inr (.inr 309), .inl (h 318 x2.toNat), .inl (h 319 x2.toNat), .inl (h 320 x2.toNat)] h R1 ∧ ∀ h1 : ftH, R1 none h1 → ft_V k_Mo_writesReport 52 [some (.inr (.inr 309)), some (.inl x1), some (.inl (ft_add x2 1))] [] h1 R))))))))) : ft_V k_Mo_writesReport 52 [some (.inr (.inr 309)), some (.inl x1), some (.inl x2)] [] h R := by
  refine fv_iload_n (ft_d o_Mo_writesReport 30 rfl) rfl rfl ?_
  refine fv_aload_n (ft_d o_Mo_writesReport 31 rfl) rfl rfl ?_
  refine fv_getI (ft_d o_Mo_writesReport 32 rfl) rfl fl_Mo_236 sh_309 rfl ?_
  refine fv_icmp_ge (tgt := 93) (ft_d o_Mo_writesReport 33 rfl) rfl rfl (fun c => ?_) (fun c => ?_)
  · have w := w.1 c
    refine fv_mask (M := [true, true, false]) rfl ?_
    exact w
  · have w := w.2 c
    refine fv_iload_n (ft_d o_Mo_writesReport 34 rfl) rfl rfl ?_
    refine fv_iconst (ft_d o_Mo_writesReport 35 rfl) rfl rfl ?_
    refine fv_icmp_ne (tgt := 93) (ft_d o_Mo_writesReport 36 rfl) rfl rfl (fun c => ?_) (fun c => ?_)
    · have w := w.1 c
      refine fv_mask (M := [true, true, false]) rfl ?_
      exact w
    · have w := w.2 c
      refine fv_aload_n (ft_d o_Mo_writesReport 37 rfl) rfl rfl ?_
      refine fv_aload_n (ft_d o_Mo_writesReport 38 rfl) rfl rfl ?_
      refine fv_getR (b := 318) (ft_d o_Mo_writesReport 39 rfl) rfl fl_Mo_38 sh_309 rfl ly_309_11 ?_
      refine fv_iload_n (ft_d o_Mo_writesReport 40 rfl) rfl rfl ?_
      refine fv_iald (ft_d o_Mo_writesReport 41 rfl) rfl sh_318 w.1 ?_
      have w := w.2
      refine fv_aload_n (ft_d o_Mo_writesReport 42 rfl) rfl rfl ?_
      refine fv_getR (b := 319) (ft_d o_Mo_writesReport 43 rfl) rfl fl_Mo_41 sh_309 rfl ly_309_12 ?_
      refine fv_iload_n (ft_d o_Mo_writesReport 44 rfl) rfl rfl ?_
      refine fv_iald (ft_d o_Mo_writesReport 45 rfl) rfl sh_319 w.1 ?_
      have w := w.2
      refine fv_aload_n (ft_d o_Mo_writesReport 46 rfl) rfl rfl ?_
      refine fv_getR (b := 320) (ft_d o_Mo_writesReport 47 rfl) rfl fl_Mo_44 sh_309 rfl ly_309_13 ?_
      refine fv_iload_n (ft_d o_Mo_writesReport 48 rfl) rfl rfl ?_
      refine fv_iald (ft_d o_Mo_writesReport 49 rfl) rfl sh_320 w.1 ?_
      have w := w.2
      obtain ⟨R1, c2, w⟩ := w
      refine fv_callv (st := []) rfl rfl (ft_mm (pre := [.inl (h 320 x2.toNat), .inl (h 319 x2.toNat), .inl (h 318 x2.toNat), .inr (.inr 309)]) rfl) (ft_rnV (K' := k_Mo_writesLine) (As := [.inl (h 318 x2.toNat), .inl (h 319 x2.toNat), .inl (h 320 x2.toNat)]) (ft_d o_Mo_writesReport 50 rfl) ml_Mo_370 li_Mo_writesLine.1 li_Mo_writesLine.2 lw_Mo_writesLine ⟨rfl, rfl, Nat.le_of_ble_eq_true rfl, Nat.le_of_ble_eq_true rfl⟩ sh_309 rfl rfl rfl rfl (Nat.le_of_ble_eq_true rfl) c2) (fun h1 hw => ?_)
      have w := w h1 hw
      refine fv_iinc (L' := [some (.inr (.inr 309)), some (.inl x1), some (.inl (ft_add x2 1))]) (ft_d o_Mo_writesReport 51 rfl) rfl rfl (Nat.le_of_ble_eq_true rfl) rfl ?_
      refine fv_goto (pc' := 52) (ft_d o_Mo_writesReport 52 rfl) rfl ?_
      exact w
set_option maxRecDepth 20000 in
theorem b_Mo_writesReport_93 {x1 : Int} {h : ftH} {R : Option ftV → ftH → Prop} 
    (w : ft_V k_Mo_writesReport 95 [some (.inr (.inr 309)), some (.inl x1), some (.inl 0)] [] h R) : ft_V k_Mo_writesReport 93 [some (.inr (.inr 309)), some (.inl x1), none] [] h R := by
  refine fv_iconst (ft_d o_Mo_writesReport 53 rfl) rfl rfl ?_
  refine fv_istore_n (L' := [some (.inr (.inr 309)), some (.inl x1), some (.inl 0)]) (ft_d o_Mo_writesReport 54 rfl) rfl (Nat.le_of_ble_eq_true rfl) rfl ?_
  exact w
set_option maxRecDepth 20000 in
theorem b_Mo_writesReport_95 {x1 : Int} {x2 : Int} {h : ftH} {R : Option ftV → ftH → Prop} 
    (w : ((h 309 26 ≤ x2 → ft_V k_Mo_writesReport 136 [some (.inr (.inr 309)), some (.inl x1), none] [] h R) ∧ (¬ (h 309 26 ≤ x2) → ((¬ (x1 = 2) → ft_V k_Mo_writesReport 136 [some (.inr (.inr 309)), some (.inl x1), none] [] h R) ∧ (x1 = 2 → ((0 ≤ x2 ∧ x2 < 64) ∧ ((0 ≤ x2 ∧ x2 < 64) ∧ ((0 ≤ x2 ∧ x2 < 64) ∧ (∃ R1 : Option ftV → ftH → Prop, ft_C k_Mo_writesLine [.inr (.inr 309), .inl (h 326 x2.toNat), .inl (h 327 x2.toNat), .inl (h 328 x2.toNat)] h R1 ∧ ∀ h1 : ftH, R1 none h1 → ft_V k_Mo_writesReport 95 [some (.inr (.inr 309)), some (.inl x1), some (.inl (ft_add x2 1))] [] h1 R))))))))) : ft_V k_Mo_writesReport 95 [some (.inr (.inr 309)), some (.inl x1), some (.inl x2)] [] h R := by
  refine fv_iload_n (ft_d o_Mo_writesReport 55 rfl) rfl rfl ?_
  refine fv_aload_n (ft_d o_Mo_writesReport 56 rfl) rfl rfl ?_
  refine fv_getI (ft_d o_Mo_writesReport 57 rfl) rfl fl_Mo_292 sh_309 rfl ?_
  refine fv_icmp_ge (tgt := 136) (ft_d o_Mo_writesReport 58 rfl) rfl rfl (fun c => ?_) (fun c => ?_)
  · have w := w.1 c
    refine fv_mask (M := [true, true, false]) rfl ?_
    exact w
  · have w := w.2 c
    refine fv_iload_n (ft_d o_Mo_writesReport 59 rfl) rfl rfl ?_
    refine fv_iconst (ft_d o_Mo_writesReport 60 rfl) rfl rfl ?_
    refine fv_icmp_ne (tgt := 136) (ft_d o_Mo_writesReport 61 rfl) rfl rfl (fun c => ?_) (fun c => ?_)
    · have w := w.1 c
      refine fv_mask (M := [true, true, false]) rfl ?_
      exact w
    · have w := w.2 c
      refine fv_aload_n (ft_d o_Mo_writesReport 62 rfl) rfl rfl ?_
      refine fv_aload_n (ft_d o_Mo_writesReport 63 rfl) rfl rfl ?_
      refine fv_getR (b := 326) (ft_d o_Mo_writesReport 64 rfl) rfl fl_Mo_62 sh_309 rfl ly_309_23 ?_
      refine fv_iload_n (ft_d o_Mo_writesReport 65 rfl) rfl rfl ?_
      refine fv_iald (ft_d o_Mo_writesReport 66 rfl) rfl sh_326 w.1 ?_
      have w := w.2
      refine fv_aload_n (ft_d o_Mo_writesReport 67 rfl) rfl rfl ?_
      refine fv_getR (b := 327) (ft_d o_Mo_writesReport 68 rfl) rfl fl_Mo_65 sh_309 rfl ly_309_24 ?_
      refine fv_iload_n (ft_d o_Mo_writesReport 69 rfl) rfl rfl ?_
      refine fv_iald (ft_d o_Mo_writesReport 70 rfl) rfl sh_327 w.1 ?_
      have w := w.2
      refine fv_aload_n (ft_d o_Mo_writesReport 71 rfl) rfl rfl ?_
      refine fv_getR (b := 328) (ft_d o_Mo_writesReport 72 rfl) rfl fl_Mo_68 sh_309 rfl ly_309_25 ?_
      refine fv_iload_n (ft_d o_Mo_writesReport 73 rfl) rfl rfl ?_
      refine fv_iald (ft_d o_Mo_writesReport 74 rfl) rfl sh_328 w.1 ?_
      have w := w.2
      obtain ⟨R1, c2, w⟩ := w
      refine fv_callv (st := []) rfl rfl (ft_mm (pre := [.inl (h 328 x2.toNat), .inl (h 327 x2.toNat), .inl (h 326 x2.toNat), .inr (.inr 309)]) rfl) (ft_rnV (K' := k_Mo_writesLine) (As := [.inl (h 326 x2.toNat), .inl (h 327 x2.toNat), .inl (h 328 x2.toNat)]) (ft_d o_Mo_writesReport 75 rfl) ml_Mo_370 li_Mo_writesLine.1 li_Mo_writesLine.2 lw_Mo_writesLine ⟨rfl, rfl, Nat.le_of_ble_eq_true rfl, Nat.le_of_ble_eq_true rfl⟩ sh_309 rfl rfl rfl rfl (Nat.le_of_ble_eq_true rfl) c2) (fun h1 hw => ?_)
      have w := w h1 hw
      refine fv_iinc (L' := [some (.inr (.inr 309)), some (.inl x1), some (.inl (ft_add x2 1))]) (ft_d o_Mo_writesReport 76 rfl) rfl rfl (Nat.le_of_ble_eq_true rfl) rfl ?_
      refine fv_goto (pc' := 95) (ft_d o_Mo_writesReport 77 rfl) rfl ?_
      exact w
set_option maxRecDepth 20000 in
theorem b_Mo_writesReport_136 {x1 : Int} {h : ftH} {R : Option ftV → ftH → Prop} 
    (w : ft_V k_Mo_writesReport 138 [some (.inr (.inr 309)), some (.inl x1), some (.inl 0)] [] h R) : ft_V k_Mo_writesReport 136 [some (.inr (.inr 309)), some (.inl x1), none] [] h R := by
  refine fv_iconst (ft_d o_Mo_writesReport 78 rfl) rfl rfl ?_
  refine fv_istore_n (L' := [some (.inr (.inr 309)), some (.inl x1), some (.inl 0)]) (ft_d o_Mo_writesReport 79 rfl) rfl (Nat.le_of_ble_eq_true rfl) rfl ?_
  exact w
set_option maxRecDepth 20000 in
theorem b_Mo_writesReport_138 {x1 : Int} {x2 : Int} {h : ftH} {R : Option ftV → ftH → Prop} 
    (w : ((h 310 2 ≤ x2 → ft_V k_Mo_writesReport 178 [some (.inr (.inr 309)), some (.inl x1), none] [] h R) ∧ (¬ (h 310 2 ≤ x2) → ((¬ (x1 = 3) → ft_V k_Mo_writesReport 178 [some (.inr (.inr 309)), some (.inl x1), none] [] h R) ∧ (x1 = 3 → ((0 ≤ x2 ∧ x2 < 80) ∧ ((0 ≤ x2 ∧ x2 < 80) ∧ ((0 ≤ x2 ∧ x2 < 80) ∧ (∃ R7 : Option ftV → ftH → Prop, ft_C k_Mo_writesLine [.inr (.inr 309), .inl (h 310 (270 + 3 * x2.toNat)), .inl (h 310 (271 + 3 * x2.toNat)), .inl (h 310 (272 + 3 * x2.toNat))] h R7 ∧ ∀ h1 : ftH, R7 none h1 → ft_V k_Mo_writesReport 138 [some (.inr (.inr 309)), some (.inl x1), some (.inl (ft_add x2 1))] [] h1 R))))))))) : ft_V k_Mo_writesReport 138 [some (.inr (.inr 309)), some (.inl x1), some (.inl x2)] [] h R := by
  refine fv_iload_n (ft_d o_Mo_writesReport 80 rfl) rfl rfl ?_
  refine fv_aload_n (ft_d o_Mo_writesReport 81 rfl) rfl rfl ?_
  refine fv_getR (b := 310) (ft_d o_Mo_writesReport 82 rfl) rfl fl_Mo_13 sh_309 rfl ly_309_1 ?_
  refine fv_iconst (ft_d o_Mo_writesReport 83 rfl) rfl rfl ?_
  refine fv_ialdj (j := 2) (ft_d o_Mo_writesReport 84 rfl) rfl sh_310 ⟨by decide, by decide⟩ rfl ?_
  refine fv_icmp_ge (tgt := 178) (ft_d o_Mo_writesReport 85 rfl) rfl rfl (fun c => ?_) (fun c => ?_)
  · have w := w.1 c
    refine fv_mask (M := [true, true, false]) rfl ?_
    exact w
  · have w := w.2 c
    refine fv_iload_n (ft_d o_Mo_writesReport 86 rfl) rfl rfl ?_
    refine fv_iconst (ft_d o_Mo_writesReport 87 rfl) rfl rfl ?_
    refine fv_icmp_ne (tgt := 178) (ft_d o_Mo_writesReport 88 rfl) rfl rfl (fun c => ?_) (fun c => ?_)
    · have w := w.1 c
      refine fv_mask (M := [true, true, false]) rfl ?_
      exact w
    · have w := w.2 c
      refine fv_aload_n (ft_d o_Mo_writesReport 89 rfl) rfl rfl ?_
      refine fv_aload_n (ft_d o_Mo_writesReport 90 rfl) rfl rfl ?_
      refine fv_iload_n (ft_d o_Mo_writesReport 91 rfl) rfl rfl ?_
      refine fv_callif (st := [.inr (.inr 309)]) (z := h 310 (270 + 3 * x2.toNat)) (Or.inl rfl) rfl (ft_mm (pre := [.inl x2, .inr (.inr 309)]) rfl) (ft_rnV (K' := k_Mo_valueIn) (As := [.inl x2]) (ft_d o_Mo_writesReport 92 rfl) ml_Mo_176 li_Mo_valueIn.1 li_Mo_valueIn.2 lw_Mo_valueIn ⟨rfl, rfl, Nat.le_of_ble_eq_true rfl, Nat.le_of_ble_eq_true rfl⟩ sh_309 rfl rfl rfl rfl (Nat.le_of_ble_eq_true rfl) (c_Mo_valueIn w.1)) ?_
      have w := w.2
      refine fv_aload_n (ft_d o_Mo_writesReport 93 rfl) rfl rfl ?_
      refine fv_iload_n (ft_d o_Mo_writesReport 94 rfl) rfl rfl ?_
      refine fv_callif (st := [.inl (h 310 (270 + 3 * x2.toNat)), .inr (.inr 309)]) (z := h 310 (271 + 3 * x2.toNat)) (Or.inl rfl) rfl (ft_mm (pre := [.inl x2, .inr (.inr 309)]) rfl) (ft_rnV (K' := k_Mo_lengthIn) (As := [.inl x2]) (ft_d o_Mo_writesReport 95 rfl) ml_Mo_173 li_Mo_lengthIn.1 li_Mo_lengthIn.2 lw_Mo_lengthIn ⟨rfl, rfl, Nat.le_of_ble_eq_true rfl, Nat.le_of_ble_eq_true rfl⟩ sh_309 rfl rfl rfl rfl (Nat.le_of_ble_eq_true rfl) (c_Mo_lengthIn w.1)) ?_
      have w := w.2
      refine fv_aload_n (ft_d o_Mo_writesReport 96 rfl) rfl rfl ?_
      refine fv_iload_n (ft_d o_Mo_writesReport 97 rfl) rfl rfl ?_
      refine fv_callif (st := [.inl (h 310 (271 + 3 * x2.toNat)), .inl (h 310 (270 + 3 * x2.toNat)), .inr (.inr 309)]) (z := h 310 (272 + 3 * x2.toNat)) (Or.inl rfl) rfl (ft_mm (pre := [.inl x2, .inr (.inr 309)]) rfl) (ft_rnV (K' := k_Mo_actionIn) (As := [.inl x2]) (ft_d o_Mo_writesReport 98 rfl) ml_Mo_157 li_Mo_actionIn.1 li_Mo_actionIn.2 lw_Mo_actionIn ⟨rfl, rfl, Nat.le_of_ble_eq_true rfl, Nat.le_of_ble_eq_true rfl⟩ sh_309 rfl rfl rfl rfl (Nat.le_of_ble_eq_true rfl) (c_Mo_actionIn w.1)) ?_
      have w := w.2
      obtain ⟨R7, c8, w⟩ := w
      refine fv_callv (st := []) rfl rfl (ft_mm (pre := [.inl (h 310 (272 + 3 * x2.toNat)), .inl (h 310 (271 + 3 * x2.toNat)), .inl (h 310 (270 + 3 * x2.toNat)), .inr (.inr 309)]) rfl) (ft_rnV (K' := k_Mo_writesLine) (As := [.inl (h 310 (270 + 3 * x2.toNat)), .inl (h 310 (271 + 3 * x2.toNat)), .inl (h 310 (272 + 3 * x2.toNat))]) (ft_d o_Mo_writesReport 99 rfl) ml_Mo_370 li_Mo_writesLine.1 li_Mo_writesLine.2 lw_Mo_writesLine ⟨rfl, rfl, Nat.le_of_ble_eq_true rfl, Nat.le_of_ble_eq_true rfl⟩ sh_309 rfl rfl rfl rfl (Nat.le_of_ble_eq_true rfl) c8) (fun h1 hw => ?_)
      have w := w h1 hw
      refine fv_iinc (L' := [some (.inr (.inr 309)), some (.inl x1), some (.inl (ft_add x2 1))]) (ft_d o_Mo_writesReport 100 rfl) rfl rfl (Nat.le_of_ble_eq_true rfl) rfl ?_
      refine fv_goto (pc' := 138) (ft_d o_Mo_writesReport 101 rfl) rfl ?_
      exact w
set_option maxRecDepth 20000 in
theorem b_Mo_writesReport_178 {x1 : Int} {h : ftH} {R : Option ftV → ftH → Prop} 
    (w : ft_V k_Mo_writesReport 180 [some (.inr (.inr 309)), some (.inl x1), some (.inl 0)] [] h R) : ft_V k_Mo_writesReport 178 [some (.inr (.inr 309)), some (.inl x1), none] [] h R := by
  refine fv_iconst (ft_d o_Mo_writesReport 102 rfl) rfl rfl ?_
  refine fv_istore_n (L' := [some (.inr (.inr 309)), some (.inl x1), some (.inl 0)]) (ft_d o_Mo_writesReport 103 rfl) rfl (Nat.le_of_ble_eq_true rfl) rfl ?_
  exact w
set_option maxRecDepth 20000 in
theorem b_Mo_writesReport_180 {x1 : Int} {x2 : Int} {h : ftH} {R : Option ftV → ftH → Prop} 
    (w : ((h 310 1 ≤ x2 → R none h) ∧ (¬ (h 310 1 ≤ x2) → ((¬ (x1 = 4) → R none h) ∧ (x1 = 4 → ((0 ≤ x2 ∧ x2 < 40) ∧ (∃ R3 : Option ftV → ftH → Prop, ft_C k_Mo_writesAddress [.inr (.inr 309), .inl (h 310 (190 + 2 * x2.toNat))] h R3 ∧ ∀ h1 : ftH, R3 none h1 → (∃ R5 : Option ftV → ftH → Prop, ft_C k_Mo_writesSign [.inr (.inr 309), .inl 32] h1 R5 ∧ ∀ h2 : ftH, R5 none h2 → ((0 ≤ x2 ∧ x2 < 40) ∧ (∃ R9 : Option ftV → ftH → Prop, ft_C k_Mo_writesNumber [.inr (.inr 309), .inl (h2 310 (191 + 2 * x2.toNat))] h2 R9 ∧ ∀ h3 : ftH, R9 none h3 → (∃ R11 : Option ftV → ftH → Prop, ft_C k_Mo_writesSign [.inr (.inr 309), .inl 10] h3 R11 ∧ ∀ h4 : ftH, R11 none h4 → ft_V k_Mo_writesReport 180 [some (.inr (.inr 309)), some (.inl x1), some (.inl (ft_add x2 1))] [] h4 R))))))))))) : ft_V k_Mo_writesReport 180 [some (.inr (.inr 309)), some (.inl x1), some (.inl x2)] [] h R := by
  refine fv_iload_n (ft_d o_Mo_writesReport 104 rfl) rfl rfl ?_
  refine fv_aload_n (ft_d o_Mo_writesReport 105 rfl) rfl rfl ?_
  refine fv_getR (b := 310) (ft_d o_Mo_writesReport 106 rfl) rfl fl_Mo_13 sh_309 rfl ly_309_1 ?_
  refine fv_iconst (ft_d o_Mo_writesReport 107 rfl) rfl rfl ?_
  refine fv_ialdj (j := 1) (ft_d o_Mo_writesReport 108 rfl) rfl sh_310 ⟨by decide, by decide⟩ rfl ?_
  refine fv_icmp_ge (tgt := 231) (ft_d o_Mo_writesReport 109 rfl) rfl rfl (fun c => ?_) (fun c => ?_)
  · have w := w.1 c
    exact fv_return (ft_d o_Mo_writesReport 131 rfl) rfl w
  · have w := w.2 c
    refine fv_iload_n (ft_d o_Mo_writesReport 110 rfl) rfl rfl ?_
    refine fv_iconst (ft_d o_Mo_writesReport 111 rfl) rfl rfl ?_
    refine fv_icmp_ne (tgt := 231) (ft_d o_Mo_writesReport 112 rfl) rfl rfl (fun c => ?_) (fun c => ?_)
    · have w := w.1 c
      exact fv_return (ft_d o_Mo_writesReport 131 rfl) rfl w
    · have w := w.2 c
      refine fv_aload_n (ft_d o_Mo_writesReport 113 rfl) rfl rfl ?_
      refine fv_aload_n (ft_d o_Mo_writesReport 114 rfl) rfl rfl ?_
      refine fv_iload_n (ft_d o_Mo_writesReport 115 rfl) rfl rfl ?_
      refine fv_callif (st := [.inr (.inr 309)]) (z := h 310 (190 + 2 * x2.toNat)) (Or.inl rfl) rfl (ft_mm (pre := [.inl x2, .inr (.inr 309)]) rfl) (ft_rnV (K' := k_Mo_seenAt) (As := [.inl x2]) (ft_d o_Mo_writesReport 116 rfl) ml_Mo_208 li_Mo_seenAt.1 li_Mo_seenAt.2 lw_Mo_seenAt ⟨rfl, rfl, Nat.le_of_ble_eq_true rfl, Nat.le_of_ble_eq_true rfl⟩ sh_309 rfl rfl rfl rfl (Nat.le_of_ble_eq_true rfl) (c_Mo_seenAt w.1)) ?_
      have w := w.2
      obtain ⟨R3, c4, w⟩ := w
      refine fv_callv (st := []) rfl rfl (ft_mm (pre := [.inl (h 310 (190 + 2 * x2.toNat)), .inr (.inr 309)]) rfl) (ft_rnV (K' := k_Mo_writesAddress) (As := [.inl (h 310 (190 + 2 * x2.toNat))]) (ft_d o_Mo_writesReport 117 rfl) ml_Mo_367 li_Mo_writesAddress.1 li_Mo_writesAddress.2 lw_Mo_writesAddress ⟨rfl, rfl, Nat.le_of_ble_eq_true rfl, Nat.le_of_ble_eq_true rfl⟩ sh_309 rfl rfl rfl rfl (Nat.le_of_ble_eq_true rfl) c4) (fun h1 hw => ?_)
      have w := w h1 hw
      refine fv_aload_n (ft_d o_Mo_writesReport 118 rfl) rfl rfl ?_
      refine fv_bipush (ft_d o_Mo_writesReport 119 rfl) rfl rfl ?_
      obtain ⟨R5, c6, w⟩ := w
      refine fv_callv (st := []) rfl rfl (ft_mm (pre := [.inl 32, .inr (.inr 309)]) rfl) (ft_rnV (K' := k_Mo_writesSign) (As := [.inl 32]) (ft_d o_Mo_writesReport 120 rfl) ml_Mo_361 li_Mo_writesSign.1 li_Mo_writesSign.2 lw_Mo_writesSign ⟨rfl, rfl, Nat.le_of_ble_eq_true rfl, Nat.le_of_ble_eq_true rfl⟩ sh_309 rfl rfl rfl rfl (Nat.le_of_ble_eq_true rfl) c6) (fun h2 hw => ?_)
      have w := w h2 hw
      refine fv_aload_n (ft_d o_Mo_writesReport 121 rfl) rfl rfl ?_
      refine fv_aload_n (ft_d o_Mo_writesReport 122 rfl) rfl rfl ?_
      refine fv_iload_n (ft_d o_Mo_writesReport 123 rfl) rfl rfl ?_
      refine fv_callif (st := [.inr (.inr 309)]) (z := h2 310 (191 + 2 * x2.toNat)) (Or.inl rfl) rfl (ft_mm (pre := [.inl x2, .inr (.inr 309)]) rfl) (ft_rnV (K' := k_Mo_timesAt) (As := [.inl x2]) (ft_d o_Mo_writesReport 124 rfl) ml_Mo_205 li_Mo_timesAt.1 li_Mo_timesAt.2 lw_Mo_timesAt ⟨rfl, rfl, Nat.le_of_ble_eq_true rfl, Nat.le_of_ble_eq_true rfl⟩ sh_309 rfl rfl rfl rfl (Nat.le_of_ble_eq_true rfl) (c_Mo_timesAt w.1)) ?_
      have w := w.2
      obtain ⟨R9, c10, w⟩ := w
      refine fv_callv (st := []) rfl rfl (ft_mm (pre := [.inl (h2 310 (191 + 2 * x2.toNat)), .inr (.inr 309)]) rfl) (ft_rnV (K' := k_Mo_writesNumber) (As := [.inl (h2 310 (191 + 2 * x2.toNat))]) (ft_d o_Mo_writesReport 125 rfl) ml_Mo_364 li_Mo_writesNumber.1 li_Mo_writesNumber.2 lw_Mo_writesNumber ⟨rfl, rfl, Nat.le_of_ble_eq_true rfl, Nat.le_of_ble_eq_true rfl⟩ sh_309 rfl rfl rfl rfl (Nat.le_of_ble_eq_true rfl) c10) (fun h3 hw => ?_)
      have w := w h3 hw
      refine fv_aload_n (ft_d o_Mo_writesReport 126 rfl) rfl rfl ?_
      refine fv_bipush (ft_d o_Mo_writesReport 127 rfl) rfl rfl ?_
      obtain ⟨R11, c12, w⟩ := w
      refine fv_callv (st := []) rfl rfl (ft_mm (pre := [.inl 10, .inr (.inr 309)]) rfl) (ft_rnV (K' := k_Mo_writesSign) (As := [.inl 10]) (ft_d o_Mo_writesReport 128 rfl) ml_Mo_361 li_Mo_writesSign.1 li_Mo_writesSign.2 lw_Mo_writesSign ⟨rfl, rfl, Nat.le_of_ble_eq_true rfl, Nat.le_of_ble_eq_true rfl⟩ sh_309 rfl rfl rfl rfl (Nat.le_of_ble_eq_true rfl) c12) (fun h4 hw => ?_)
      have w := w h4 hw
      refine fv_iinc (L' := [some (.inr (.inr 309)), some (.inl x1), some (.inl (ft_add x2 1))]) (ft_d o_Mo_writesReport 129 rfl) rfl rfl (Nat.le_of_ble_eq_true rfl) rfl ?_
      refine fv_goto (pc' := 180) (ft_d o_Mo_writesReport 130 rfl) rfl ?_
      exact w
set_option maxRecDepth 20000 in
theorem b_Mo_reportLength_0 {x1 : Int} {h : ftH} {R : Option ftV → ftH → Prop} 
    (w : (((0 : Int) ≤ x1 ∧ x1 ≤ (4 : Int) → (∃ R3 : Option ftV → ftH → Prop, ft_C k_Mo_writesReport [.inr (.inr 309), .inl x1] h R3 ∧ ∀ h1 : ftH, R3 none h1 → R (some (.inl (h1 309 32))) h1)) ∧ (¬ ((0 : Int) ≤ x1 ∧ x1 ≤ (4 : Int)) → R (some (.inl ((-1)))) h))) : ft_V k_Mo_reportLength 0 [some (.inr (.inr 309)), some (.inl x1)] [] h R := by
  refine fv_iload_n (ft_d o_Mo_reportLength 0 rfl) rfl rfl ?_
  refine fv_i2l (ft_d o_Mo_reportLength 1 rfl) rfl ?_
  refine fv_lconst (z := 0) (ft_d o_Mo_reportLength 2 rfl) rfl rfl ?_
  refine fv_ldc2 (v := 4) (z := 4) (ft_d o_Mo_reportLength 3 rfl) rfl (ft_gt 1198 (by decide +kernel) rfl) rfl ?_
  refine fv_callif (st := []) (z := (if (0 : Int) ≤ x1 ∧ x1 ≤ (4 : Int) then 1 else 0)) (Or.inr rfl) rfl (ft_mm (pre := [.inr (.inl 4), .inr (.inl 0), .inr (.inl x1)]) rfl) (ft_rnS (K' := k_Mo_in) (As := [.inr (.inl x1), .inr (.inl 0), .inr (.inl 4)]) (ft_d o_Mo_reportLength 4 rfl) ml_Mo_106 lz_Mo_in rfl lw_Mo_in ⟨rfl, rfl, Nat.le_of_ble_eq_true rfl, Nat.le_of_ble_eq_true rfl⟩ rfl rfl (Nat.le_of_ble_eq_true rfl) (c_Mo_in)) ?_
  refine fv_if_ne (tgt := 14) (ft_d o_Mo_reportLength 5 rfl) rfl rfl (fun c => ?_) (fun c => ?_)
  · have w := w.1 (ft_if1.mp c)
    refine fv_aload_n (ft_d o_Mo_reportLength 8 rfl) rfl rfl ?_
    refine fv_iload_n (ft_d o_Mo_reportLength 9 rfl) rfl rfl ?_
    obtain ⟨R3, c4, w⟩ := w
    refine fv_callv (st := []) rfl rfl (ft_mm (pre := [.inl x1, .inr (.inr 309)]) rfl) (ft_rnV (K' := k_Mo_writesReport) (As := [.inl x1]) (ft_d o_Mo_reportLength 10 rfl) ml_Mo_373 li_Mo_writesReport.1 li_Mo_writesReport.2 lw_Mo_writesReport ⟨rfl, rfl, Nat.le_of_ble_eq_true rfl, Nat.le_of_ble_eq_true rfl⟩ sh_309 rfl rfl rfl rfl (Nat.le_of_ble_eq_true rfl) c4) (fun h1 hw => ?_)
    have w := w h1 hw
    refine fv_aload_n (ft_d o_Mo_reportLength 11 rfl) rfl rfl ?_
    refine fv_getI (ft_d o_Mo_reportLength 12 rfl) rfl fl_Mo_358 sh_309 rfl ?_
    exact fv_ireturn (ft_d o_Mo_reportLength 13 rfl) rfl w
  · have w := w.2 (ft_if0.mp c)
    refine fv_iconst (ft_d o_Mo_reportLength 6 rfl) rfl rfl ?_
    exact fv_ireturn (ft_d o_Mo_reportLength 7 rfl) rfl w
set_option maxRecDepth 20000 in
theorem b_Mo_reportByte_0 {x1 : Int} {x2 : Int} {h : ftH} {R : Option ftV → ftH → Prop} 
    (w : ((¬ ((0 : Int) ≤ x1 ∧ x1 ≤ (4 : Int)) → R (some (.inl ((-1)))) h) ∧ ((0 : Int) ≤ x1 ∧ x1 ≤ (4 : Int) → ((0 ≤ x2 → (∃ R3 : Option ftV → ftH → Prop, ft_C k_Mo_writesReport [.inr (.inr 309), .inl x1] h R3 ∧ ∀ h1 : ftH, R3 none h1 → ((h1 309 32 ≤ x2 → R (some (.inl ((-2)))) h1) ∧ (¬ (h1 309 32 ≤ x2) → ((0 ≤ x2 ∧ x2 < 2400) ∧ R (some (.inl (h1 329 x2.toNat))) h1))))) ∧ (¬ (0 ≤ x2) → R (some (.inl ((-1)))) h))))) : ft_V k_Mo_reportByte 0 [some (.inr (.inr 309)), some (.inl x1), some (.inl x2)] [] h R := by
  refine fv_iload_n (ft_d o_Mo_reportByte 0 rfl) rfl rfl ?_
  refine fv_i2l (ft_d o_Mo_reportByte 1 rfl) rfl ?_
  refine fv_lconst (z := 0) (ft_d o_Mo_reportByte 2 rfl) rfl rfl ?_
  refine fv_ldc2 (v := 4) (z := 4) (ft_d o_Mo_reportByte 3 rfl) rfl (ft_gt 1198 (by decide +kernel) rfl) rfl ?_
  refine fv_callif (st := []) (z := (if (0 : Int) ≤ x1 ∧ x1 ≤ (4 : Int) then 1 else 0)) (Or.inr rfl) rfl (ft_mm (pre := [.inr (.inl 4), .inr (.inl 0), .inr (.inl x1)]) rfl) (ft_rnS (K' := k_Mo_in) (As := [.inr (.inl x1), .inr (.inl 0), .inr (.inl 4)]) (ft_d o_Mo_reportByte 4 rfl) ml_Mo_106 lz_Mo_in rfl lw_Mo_in ⟨rfl, rfl, Nat.le_of_ble_eq_true rfl, Nat.le_of_ble_eq_true rfl⟩ rfl rfl (Nat.le_of_ble_eq_true rfl) (c_Mo_in)) ?_
  refine fv_if_eq (tgt := 16) (ft_d o_Mo_reportByte 5 rfl) rfl rfl (fun c => ?_) (fun c => ?_)
  · have w := w.1 (ft_if0.mp c)
    refine fv_iconst (ft_d o_Mo_reportByte 8 rfl) rfl rfl ?_
    exact fv_ireturn (ft_d o_Mo_reportByte 9 rfl) rfl w
  · have w := w.2 (ft_if1.mp c)
    refine fv_iload_n (ft_d o_Mo_reportByte 6 rfl) rfl rfl ?_
    refine fv_if_ge (tgt := 18) (ft_d o_Mo_reportByte 7 rfl) rfl rfl (fun c => ?_) (fun c => ?_)
    · have w := w.1 c
      refine fv_aload_n (ft_d o_Mo_reportByte 10 rfl) rfl rfl ?_
      refine fv_iload_n (ft_d o_Mo_reportByte 11 rfl) rfl rfl ?_
      obtain ⟨R3, c4, w⟩ := w
      refine fv_callv (st := []) rfl rfl (ft_mm (pre := [.inl x1, .inr (.inr 309)]) rfl) (ft_rnV (K' := k_Mo_writesReport) (As := [.inl x1]) (ft_d o_Mo_reportByte 12 rfl) ml_Mo_373 li_Mo_writesReport.1 li_Mo_writesReport.2 lw_Mo_writesReport ⟨rfl, rfl, Nat.le_of_ble_eq_true rfl, Nat.le_of_ble_eq_true rfl⟩ sh_309 rfl rfl rfl rfl (Nat.le_of_ble_eq_true rfl) c4) (fun h1 hw => ?_)
      have w := w h1 hw
      refine fv_iload_n (ft_d o_Mo_reportByte 13 rfl) rfl rfl ?_
      refine fv_aload_n (ft_d o_Mo_reportByte 14 rfl) rfl rfl ?_
      refine fv_getI (ft_d o_Mo_reportByte 15 rfl) rfl fl_Mo_358 sh_309 rfl ?_
      refine fv_icmp_ge (tgt := 40) (ft_d o_Mo_reportByte 16 rfl) rfl rfl (fun c => ?_) (fun c => ?_)
      · have w := w.1 c
        refine fv_bipush (ft_d o_Mo_reportByte 22 rfl) rfl rfl ?_
        exact fv_ireturn (ft_d o_Mo_reportByte 23 rfl) rfl w
      · have w := w.2 c
        refine fv_aload_n (ft_d o_Mo_reportByte 17 rfl) rfl rfl ?_
        refine fv_getR (b := 329) (ft_d o_Mo_reportByte 18 rfl) rfl fl_Mo_71 sh_309 rfl ly_309_31 ?_
        refine fv_iload_n (ft_d o_Mo_reportByte 19 rfl) rfl rfl ?_
        refine fv_iald (ft_d o_Mo_reportByte 20 rfl) rfl sh_329 w.1 ?_
        have w := w.2
        refine fv_goto (pc' := 42) (ft_d o_Mo_reportByte 21 rfl) rfl ?_
        exact fv_ireturn (ft_d o_Mo_reportByte 23 rfl) rfl w
    · have w := w.2 c
      refine fv_iconst (ft_d o_Mo_reportByte 8 rfl) rfl rfl ?_
      exact fv_ireturn (ft_d o_Mo_reportByte 9 rfl) rfl w
set_option maxRecDepth 20000 in
theorem b_Mo_tapeLength_0  {h : ftH} {R : Option ftV → ftH → Prop} 
    (w : R (some (.inl (h 309 34))) h) : ft_V k_Mo_tapeLength 0 [some (.inr (.inr 309))] [] h R := by
  refine fv_aload_n (ft_d o_Mo_tapeLength 0 rfl) rfl rfl ?_
  refine fv_getI (ft_d o_Mo_tapeLength 1 rfl) rfl fl_Mo_376 sh_309 rfl ?_
  exact fv_ireturn (ft_d o_Mo_tapeLength 2 rfl) rfl w
set_option maxRecDepth 20000 in
theorem b_Mo_append_0 {x1 : Int} {x2 : Int} {x3 : Int} {x4 : Int} {x5 : Int} {h : ftH} {R : Option ftV → ftH → Prop} 
    (w : ((ft_add (h 309 34) 20 ≤ 2200 → ft_V k_Mo_append 18 [some (.inr (.inr 309)), some (.inl x1), some (.inl x2), some (.inl x3), some (.inl x4), some (.inl x5), some (.inl 0), none] [] h R) ∧ (¬ (ft_add (h 309 34) 20 ≤ 2200) → R (some (.inl ((-1)))) h))) : ft_V k_Mo_append 0 [some (.inr (.inr 309)), some (.inl x1), some (.inl x2), some (.inl x3), some (.inl x4), some (.inl x5), none, none] [] h R := by
  refine fv_aload_n (ft_d o_Mo_append 0 rfl) rfl rfl ?_
  refine fv_getI (ft_d o_Mo_append 1 rfl) rfl fl_Mo_376 sh_309 rfl ?_
  refine fv_bipush (ft_d o_Mo_append 2 rfl) rfl rfl ?_
  refine fv_iadd (ft_d o_Mo_append 3 rfl) rfl ?_
  refine fv_sipush (ft_d o_Mo_append 4 rfl) rfl rfl ?_
  refine fv_icmp_le (tgt := 15) (ft_d o_Mo_append 5 rfl) rfl rfl (fun c => ?_) (fun c => ?_)
  · have w := w.1 c
    refine fv_iconst (ft_d o_Mo_append 8 rfl) rfl rfl ?_
    refine fv_istore (L' := [some (.inr (.inr 309)), some (.inl x1), some (.inl x2), some (.inl x3), some (.inl x4), some (.inl x5), some (.inl 0), none]) (ft_d o_Mo_append 9 rfl) rfl (Nat.le_of_ble_eq_true rfl) rfl ?_
    exact w
  · have w := w.2 c
    refine fv_iconst (ft_d o_Mo_append 6 rfl) rfl rfl ?_
    exact fv_ireturn (ft_d o_Mo_append 7 rfl) rfl w
set_option maxRecDepth 20000 in
theorem b_Mo_append_18 {x1 : Int} {x2 : Int} {x3 : Int} {x4 : Int} {x5 : Int} {x6 : Int} {h : ftH} {R : Option ftV → ftH → Prop} 
    (w : ((20 ≤ x6 → R (some (.inl (h 309 34))) h) ∧ (¬ (20 ≤ x6) → ((4 ≤ x6 → ((8 ≤ x6 → ((12 ≤ x6 → ((16 ≤ x6 → ((0 ≤ h 309 34 ∧ h 309 34 < 2200) ∧ (∀ h1 : ftH, h1 = ft_hs h 330 (h 309 34).toNat (ft_and (ft_shr x5 (ft_sub 24 (ft_mul 8 (ft_rem x6 4)))) 255) → (∀ h2 : ftH, h2 = ft_hs h1 309 34 (ft_add (h1 309 34) 1) → ft_V k_Mo_append 18 [some (.inr (.inr 309)), some (.inl x1), some (.inl x2), some (.inl x3), some (.inl x4), some (.inl x5), some (.inl (ft_add x6 1)), none] [] h2 R)))) ∧ (¬ (16 ≤ x6) → ((0 ≤ h 309 34 ∧ h 309 34 < 2200) ∧ (∀ h3 : ftH, h3 = ft_hs h 330 (h 309 34).toNat (ft_and (ft_shr x4 (ft_sub 24 (ft_mul 8 (ft_rem x6 4)))) 255) → (∀ h4 : ftH, h4 = ft_hs h3 309 34 (ft_add (h3 309 34) 1) → ft_V k_Mo_append 18 [some (.inr (.inr 309)), some (.inl x1), some (.inl x2), some (.inl x3), some (.inl x4), some (.inl x5), some (.inl (ft_add x6 1)), none] [] h4 R)))))) ∧ (¬ (12 ≤ x6) → ((0 ≤ h 309 34 ∧ h 309 34 < 2200) ∧ (∀ h5 : ftH, h5 = ft_hs h 330 (h 309 34).toNat (ft_and (ft_shr x3 (ft_sub 24 (ft_mul 8 (ft_rem x6 4)))) 255) → (∀ h6 : ftH, h6 = ft_hs h5 309 34 (ft_add (h5 309 34) 1) → ft_V k_Mo_append 18 [some (.inr (.inr 309)), some (.inl x1), some (.inl x2), some (.inl x3), some (.inl x4), some (.inl x5), some (.inl (ft_add x6 1)), none] [] h6 R)))))) ∧ (¬ (8 ≤ x6) → ((0 ≤ h 309 34 ∧ h 309 34 < 2200) ∧ (∀ h7 : ftH, h7 = ft_hs h 330 (h 309 34).toNat (ft_and (ft_shr x2 (ft_sub 24 (ft_mul 8 (ft_rem x6 4)))) 255) → (∀ h8 : ftH, h8 = ft_hs h7 309 34 (ft_add (h7 309 34) 1) → ft_V k_Mo_append 18 [some (.inr (.inr 309)), some (.inl x1), some (.inl x2), some (.inl x3), some (.inl x4), some (.inl x5), some (.inl (ft_add x6 1)), none] [] h8 R)))))) ∧ (¬ (4 ≤ x6) → ((0 ≤ h 309 34 ∧ h 309 34 < 2200) ∧ (∀ h9 : ftH, h9 = ft_hs h 330 (h 309 34).toNat (ft_and (ft_shr x1 (ft_sub 24 (ft_mul 8 (ft_rem x6 4)))) 255) → (∀ h10 : ftH, h10 = ft_hs h9 309 34 (ft_add (h9 309 34) 1) → ft_V k_Mo_append 18 [some (.inr (.inr 309)), some (.inl x1), some (.inl x2), some (.inl x3), some (.inl x4), some (.inl x5), some (.inl (ft_add x6 1)), none] [] h10 R)))))))) : ft_V k_Mo_append 18 [some (.inr (.inr 309)), some (.inl x1), some (.inl x2), some (.inl x3), some (.inl x4), some (.inl x5), some (.inl x6), none] [] h R := by
  refine fv_iload (ft_d o_Mo_append 10 rfl) rfl rfl ?_
  refine fv_bipush (ft_d o_Mo_append 11 rfl) rfl rfl ?_
  refine fv_icmp_ge (tgt := 115) (ft_d o_Mo_append 12 rfl) rfl rfl (fun c => ?_) (fun c => ?_)
  · have w := w.1 c
    refine fv_aload_n (ft_d o_Mo_append 59 rfl) rfl rfl ?_
    refine fv_getI (ft_d o_Mo_append 60 rfl) rfl fl_Mo_376 sh_309 rfl ?_
    exact fv_ireturn (ft_d o_Mo_append 61 rfl) rfl w
  · have w := w.2 c
    refine fv_iload (ft_d o_Mo_append 13 rfl) rfl rfl ?_
    refine fv_iconst (ft_d o_Mo_append 14 rfl) rfl rfl ?_
    refine fv_icmp_ge (tgt := 35) (ft_d o_Mo_append 15 rfl) rfl rfl (fun c => ?_) (fun c => ?_)
    · have w := w.1 c
      refine fv_iload (ft_d o_Mo_append 18 rfl) rfl rfl ?_
      refine fv_bipush (ft_d o_Mo_append 19 rfl) rfl rfl ?_
      refine fv_icmp_ge (tgt := 46) (ft_d o_Mo_append 20 rfl) rfl rfl (fun c => ?_) (fun c => ?_)
      · have w := w.1 c
        refine fv_iload (ft_d o_Mo_append 23 rfl) rfl rfl ?_
        refine fv_bipush (ft_d o_Mo_append 24 rfl) rfl rfl ?_
        refine fv_icmp_ge (tgt := 57) (ft_d o_Mo_append 25 rfl) rfl rfl (fun c => ?_) (fun c => ?_)
        · have w := w.1 c
          refine fv_iload (ft_d o_Mo_append 28 rfl) rfl rfl ?_
          refine fv_bipush (ft_d o_Mo_append 29 rfl) rfl rfl ?_
          refine fv_icmp_ge (tgt := 69) (ft_d o_Mo_append 30 rfl) rfl rfl (fun c => ?_) (fun c => ?_)
          · have w := w.1 c
            refine fv_iload (ft_d o_Mo_append 33 rfl) rfl rfl ?_
            refine fv_istore (L' := [some (.inr (.inr 309)), some (.inl x1), some (.inl x2), some (.inl x3), some (.inl x4), some (.inl x5), some (.inl x6), some (.inl x5)]) (ft_d o_Mo_append 34 rfl) rfl (Nat.le_of_ble_eq_true rfl) rfl ?_
            refine fv_aload_n (ft_d o_Mo_append 35 rfl) rfl rfl ?_
            refine fv_getR (b := 330) (ft_d o_Mo_append 36 rfl) rfl fl_Mo_74 sh_309 rfl ly_309_33 ?_
            refine fv_aload_n (ft_d o_Mo_append 37 rfl) rfl rfl ?_
            refine fv_getI (ft_d o_Mo_append 38 rfl) rfl fl_Mo_376 sh_309 rfl ?_
            refine fv_iload (ft_d o_Mo_append 39 rfl) rfl rfl ?_
            refine fv_bipush (ft_d o_Mo_append 40 rfl) rfl rfl ?_
            refine fv_bipush (ft_d o_Mo_append 41 rfl) rfl rfl ?_
            refine fv_iload (ft_d o_Mo_append 42 rfl) rfl rfl ?_
            refine fv_iconst (ft_d o_Mo_append 43 rfl) rfl rfl ?_
            refine fv_irem (ft_d o_Mo_append 44 rfl) rfl (by decide) ?_
            refine fv_imul (ft_d o_Mo_append 45 rfl) rfl ?_
            refine fv_isub (ft_d o_Mo_append 46 rfl) rfl ?_
            refine fv_ishr (ft_d o_Mo_append 47 rfl) rfl ?_
            refine fv_sipush (ft_d o_Mo_append 48 rfl) rfl rfl ?_
            refine fv_iand (ft_d o_Mo_append 49 rfl) rfl ?_
            refine fv_iast (ft_d o_Mo_append 50 rfl) rfl sh_330 w.1 ?_
            have w := w.2
            generalize eh1 : ft_hs h 330 (h 309 34).toNat (ft_and (ft_shr x5 (ft_sub 24 (ft_mul 8 (ft_rem x6 4)))) 255) = h1
            have w := w h1 eh1.symm
            refine fv_aload_n (ft_d o_Mo_append 51 rfl) rfl rfl ?_
            refine fv_dup (ft_d o_Mo_append 52 rfl) rfl rfl ?_
            refine fv_getI (ft_d o_Mo_append 53 rfl) rfl fl_Mo_376 sh_309 rfl ?_
            refine fv_iconst (ft_d o_Mo_append 54 rfl) rfl rfl ?_
            refine fv_iadd (ft_d o_Mo_append 55 rfl) rfl ?_
            refine fv_putI (ft_d o_Mo_append 56 rfl) rfl fl_Mo_376 rfl rfl sh_309 rfl ?_
            generalize eh2 : ft_hs h1 309 34 (ft_add (h1 309 34) 1) = h2
            have w := w h2 eh2.symm
            refine fv_iinc (L' := [some (.inr (.inr 309)), some (.inl x1), some (.inl x2), some (.inl x3), some (.inl x4), some (.inl x5), some (.inl (ft_add x6 1)), some (.inl x5)]) (ft_d o_Mo_append 57 rfl) rfl rfl (Nat.le_of_ble_eq_true rfl) rfl ?_
            refine fv_goto (pc' := 18) (ft_d o_Mo_append 58 rfl) rfl ?_
            refine fv_mask (M := [true, true, true, true, true, true, true, false]) rfl ?_
            exact w
          · have w := w.2 c
            refine fv_iload (ft_d o_Mo_append 31 rfl) rfl rfl ?_
            refine fv_goto (pc' := 71) (ft_d o_Mo_append 32 rfl) rfl ?_
            refine fv_istore (L' := [some (.inr (.inr 309)), some (.inl x1), some (.inl x2), some (.inl x3), some (.inl x4), some (.inl x5), some (.inl x6), some (.inl x4)]) (ft_d o_Mo_append 34 rfl) rfl (Nat.le_of_ble_eq_true rfl) rfl ?_
            refine fv_aload_n (ft_d o_Mo_append 35 rfl) rfl rfl ?_
            refine fv_getR (b := 330) (ft_d o_Mo_append 36 rfl) rfl fl_Mo_74 sh_309 rfl ly_309_33 ?_
            refine fv_aload_n (ft_d o_Mo_append 37 rfl) rfl rfl ?_
            refine fv_getI (ft_d o_Mo_append 38 rfl) rfl fl_Mo_376 sh_309 rfl ?_
            refine fv_iload (ft_d o_Mo_append 39 rfl) rfl rfl ?_
            refine fv_bipush (ft_d o_Mo_append 40 rfl) rfl rfl ?_
            refine fv_bipush (ft_d o_Mo_append 41 rfl) rfl rfl ?_
            refine fv_iload (ft_d o_Mo_append 42 rfl) rfl rfl ?_
            refine fv_iconst (ft_d o_Mo_append 43 rfl) rfl rfl ?_
            refine fv_irem (ft_d o_Mo_append 44 rfl) rfl (by decide) ?_
            refine fv_imul (ft_d o_Mo_append 45 rfl) rfl ?_
            refine fv_isub (ft_d o_Mo_append 46 rfl) rfl ?_
            refine fv_ishr (ft_d o_Mo_append 47 rfl) rfl ?_
            refine fv_sipush (ft_d o_Mo_append 48 rfl) rfl rfl ?_
            refine fv_iand (ft_d o_Mo_append 49 rfl) rfl ?_
            refine fv_iast (ft_d o_Mo_append 50 rfl) rfl sh_330 w.1 ?_
            have w := w.2
            generalize eh3 : ft_hs h 330 (h 309 34).toNat (ft_and (ft_shr x4 (ft_sub 24 (ft_mul 8 (ft_rem x6 4)))) 255) = h3
            have w := w h3 eh3.symm
            refine fv_aload_n (ft_d o_Mo_append 51 rfl) rfl rfl ?_
            refine fv_dup (ft_d o_Mo_append 52 rfl) rfl rfl ?_
            refine fv_getI (ft_d o_Mo_append 53 rfl) rfl fl_Mo_376 sh_309 rfl ?_
            refine fv_iconst (ft_d o_Mo_append 54 rfl) rfl rfl ?_
            refine fv_iadd (ft_d o_Mo_append 55 rfl) rfl ?_
            refine fv_putI (ft_d o_Mo_append 56 rfl) rfl fl_Mo_376 rfl rfl sh_309 rfl ?_
            generalize eh4 : ft_hs h3 309 34 (ft_add (h3 309 34) 1) = h4
            have w := w h4 eh4.symm
            refine fv_iinc (L' := [some (.inr (.inr 309)), some (.inl x1), some (.inl x2), some (.inl x3), some (.inl x4), some (.inl x5), some (.inl (ft_add x6 1)), some (.inl x4)]) (ft_d o_Mo_append 57 rfl) rfl rfl (Nat.le_of_ble_eq_true rfl) rfl ?_
            refine fv_goto (pc' := 18) (ft_d o_Mo_append 58 rfl) rfl ?_
            refine fv_mask (M := [true, true, true, true, true, true, true, false]) rfl ?_
            exact w
        · have w := w.2 c
          refine fv_iload_n (ft_d o_Mo_append 26 rfl) rfl rfl ?_
          refine fv_goto (pc' := 71) (ft_d o_Mo_append 27 rfl) rfl ?_
          refine fv_istore (L' := [some (.inr (.inr 309)), some (.inl x1), some (.inl x2), some (.inl x3), some (.inl x4), some (.inl x5), some (.inl x6), some (.inl x3)]) (ft_d o_Mo_append 34 rfl) rfl (Nat.le_of_ble_eq_true rfl) rfl ?_
          refine fv_aload_n (ft_d o_Mo_append 35 rfl) rfl rfl ?_
          refine fv_getR (b := 330) (ft_d o_Mo_append 36 rfl) rfl fl_Mo_74 sh_309 rfl ly_309_33 ?_
          refine fv_aload_n (ft_d o_Mo_append 37 rfl) rfl rfl ?_
          refine fv_getI (ft_d o_Mo_append 38 rfl) rfl fl_Mo_376 sh_309 rfl ?_
          refine fv_iload (ft_d o_Mo_append 39 rfl) rfl rfl ?_
          refine fv_bipush (ft_d o_Mo_append 40 rfl) rfl rfl ?_
          refine fv_bipush (ft_d o_Mo_append 41 rfl) rfl rfl ?_
          refine fv_iload (ft_d o_Mo_append 42 rfl) rfl rfl ?_
          refine fv_iconst (ft_d o_Mo_append 43 rfl) rfl rfl ?_
          refine fv_irem (ft_d o_Mo_append 44 rfl) rfl (by decide) ?_
          refine fv_imul (ft_d o_Mo_append 45 rfl) rfl ?_
          refine fv_isub (ft_d o_Mo_append 46 rfl) rfl ?_
          refine fv_ishr (ft_d o_Mo_append 47 rfl) rfl ?_
          refine fv_sipush (ft_d o_Mo_append 48 rfl) rfl rfl ?_
          refine fv_iand (ft_d o_Mo_append 49 rfl) rfl ?_
          refine fv_iast (ft_d o_Mo_append 50 rfl) rfl sh_330 w.1 ?_
          have w := w.2
          generalize eh5 : ft_hs h 330 (h 309 34).toNat (ft_and (ft_shr x3 (ft_sub 24 (ft_mul 8 (ft_rem x6 4)))) 255) = h5
          have w := w h5 eh5.symm
          refine fv_aload_n (ft_d o_Mo_append 51 rfl) rfl rfl ?_
          refine fv_dup (ft_d o_Mo_append 52 rfl) rfl rfl ?_
          refine fv_getI (ft_d o_Mo_append 53 rfl) rfl fl_Mo_376 sh_309 rfl ?_
          refine fv_iconst (ft_d o_Mo_append 54 rfl) rfl rfl ?_
          refine fv_iadd (ft_d o_Mo_append 55 rfl) rfl ?_
          refine fv_putI (ft_d o_Mo_append 56 rfl) rfl fl_Mo_376 rfl rfl sh_309 rfl ?_
          generalize eh6 : ft_hs h5 309 34 (ft_add (h5 309 34) 1) = h6
          have w := w h6 eh6.symm
          refine fv_iinc (L' := [some (.inr (.inr 309)), some (.inl x1), some (.inl x2), some (.inl x3), some (.inl x4), some (.inl x5), some (.inl (ft_add x6 1)), some (.inl x3)]) (ft_d o_Mo_append 57 rfl) rfl rfl (Nat.le_of_ble_eq_true rfl) rfl ?_
          refine fv_goto (pc' := 18) (ft_d o_Mo_append 58 rfl) rfl ?_
          refine fv_mask (M := [true, true, true, true, true, true, true, false]) rfl ?_
          exact w
      · have w := w.2 c
        refine fv_iload_n (ft_d o_Mo_append 21 rfl) rfl rfl ?_
        refine fv_goto (pc' := 71) (ft_d o_Mo_append 22 rfl) rfl ?_
        refine fv_istore (L' := [some (.inr (.inr 309)), some (.inl x1), some (.inl x2), some (.inl x3), some (.inl x4), some (.inl x5), some (.inl x6), some (.inl x2)]) (ft_d o_Mo_append 34 rfl) rfl (Nat.le_of_ble_eq_true rfl) rfl ?_
        refine fv_aload_n (ft_d o_Mo_append 35 rfl) rfl rfl ?_
        refine fv_getR (b := 330) (ft_d o_Mo_append 36 rfl) rfl fl_Mo_74 sh_309 rfl ly_309_33 ?_
        refine fv_aload_n (ft_d o_Mo_append 37 rfl) rfl rfl ?_
        refine fv_getI (ft_d o_Mo_append 38 rfl) rfl fl_Mo_376 sh_309 rfl ?_
        refine fv_iload (ft_d o_Mo_append 39 rfl) rfl rfl ?_
        refine fv_bipush (ft_d o_Mo_append 40 rfl) rfl rfl ?_
        refine fv_bipush (ft_d o_Mo_append 41 rfl) rfl rfl ?_
        refine fv_iload (ft_d o_Mo_append 42 rfl) rfl rfl ?_
        refine fv_iconst (ft_d o_Mo_append 43 rfl) rfl rfl ?_
        refine fv_irem (ft_d o_Mo_append 44 rfl) rfl (by decide) ?_
        refine fv_imul (ft_d o_Mo_append 45 rfl) rfl ?_
        refine fv_isub (ft_d o_Mo_append 46 rfl) rfl ?_
        refine fv_ishr (ft_d o_Mo_append 47 rfl) rfl ?_
        refine fv_sipush (ft_d o_Mo_append 48 rfl) rfl rfl ?_
        refine fv_iand (ft_d o_Mo_append 49 rfl) rfl ?_
        refine fv_iast (ft_d o_Mo_append 50 rfl) rfl sh_330 w.1 ?_
        have w := w.2
        generalize eh7 : ft_hs h 330 (h 309 34).toNat (ft_and (ft_shr x2 (ft_sub 24 (ft_mul 8 (ft_rem x6 4)))) 255) = h7
        have w := w h7 eh7.symm
        refine fv_aload_n (ft_d o_Mo_append 51 rfl) rfl rfl ?_
        refine fv_dup (ft_d o_Mo_append 52 rfl) rfl rfl ?_
        refine fv_getI (ft_d o_Mo_append 53 rfl) rfl fl_Mo_376 sh_309 rfl ?_
        refine fv_iconst (ft_d o_Mo_append 54 rfl) rfl rfl ?_
        refine fv_iadd (ft_d o_Mo_append 55 rfl) rfl ?_
        refine fv_putI (ft_d o_Mo_append 56 rfl) rfl fl_Mo_376 rfl rfl sh_309 rfl ?_
        generalize eh8 : ft_hs h7 309 34 (ft_add (h7 309 34) 1) = h8
        have w := w h8 eh8.symm
        refine fv_iinc (L' := [some (.inr (.inr 309)), some (.inl x1), some (.inl x2), some (.inl x3), some (.inl x4), some (.inl x5), some (.inl (ft_add x6 1)), some (.inl x2)]) (ft_d o_Mo_append 57 rfl) rfl rfl (Nat.le_of_ble_eq_true rfl) rfl ?_
        refine fv_goto (pc' := 18) (ft_d o_Mo_append 58 rfl) rfl ?_
        refine fv_mask (M := [true, true, true, true, true, true, true, false]) rfl ?_
        exact w
    · have w := w.2 c
      refine fv_iload_n (ft_d o_Mo_append 16 rfl) rfl rfl ?_
      refine fv_goto (pc' := 71) (ft_d o_Mo_append 17 rfl) rfl ?_
      refine fv_istore (L' := [some (.inr (.inr 309)), some (.inl x1), some (.inl x2), some (.inl x3), some (.inl x4), some (.inl x5), some (.inl x6), some (.inl x1)]) (ft_d o_Mo_append 34 rfl) rfl (Nat.le_of_ble_eq_true rfl) rfl ?_
      refine fv_aload_n (ft_d o_Mo_append 35 rfl) rfl rfl ?_
      refine fv_getR (b := 330) (ft_d o_Mo_append 36 rfl) rfl fl_Mo_74 sh_309 rfl ly_309_33 ?_
      refine fv_aload_n (ft_d o_Mo_append 37 rfl) rfl rfl ?_
      refine fv_getI (ft_d o_Mo_append 38 rfl) rfl fl_Mo_376 sh_309 rfl ?_
      refine fv_iload (ft_d o_Mo_append 39 rfl) rfl rfl ?_
      refine fv_bipush (ft_d o_Mo_append 40 rfl) rfl rfl ?_
      refine fv_bipush (ft_d o_Mo_append 41 rfl) rfl rfl ?_
      refine fv_iload (ft_d o_Mo_append 42 rfl) rfl rfl ?_
      refine fv_iconst (ft_d o_Mo_append 43 rfl) rfl rfl ?_
      refine fv_irem (ft_d o_Mo_append 44 rfl) rfl (by decide) ?_
      refine fv_imul (ft_d o_Mo_append 45 rfl) rfl ?_
      refine fv_isub (ft_d o_Mo_append 46 rfl) rfl ?_
      refine fv_ishr (ft_d o_Mo_append 47 rfl) rfl ?_
      refine fv_sipush (ft_d o_Mo_append 48 rfl) rfl rfl ?_
      refine fv_iand (ft_d o_Mo_append 49 rfl) rfl ?_
      refine fv_iast (ft_d o_Mo_append 50 rfl) rfl sh_330 w.1 ?_
      have w := w.2
      generalize eh9 : ft_hs h 330 (h 309 34).toNat (ft_and (ft_shr x1 (ft_sub 24 (ft_mul 8 (ft_rem x6 4)))) 255) = h9
      have w := w h9 eh9.symm
      refine fv_aload_n (ft_d o_Mo_append 51 rfl) rfl rfl ?_
      refine fv_dup (ft_d o_Mo_append 52 rfl) rfl rfl ?_
      refine fv_getI (ft_d o_Mo_append 53 rfl) rfl fl_Mo_376 sh_309 rfl ?_
      refine fv_iconst (ft_d o_Mo_append 54 rfl) rfl rfl ?_
      refine fv_iadd (ft_d o_Mo_append 55 rfl) rfl ?_
      refine fv_putI (ft_d o_Mo_append 56 rfl) rfl fl_Mo_376 rfl rfl sh_309 rfl ?_
      generalize eh10 : ft_hs h9 309 34 (ft_add (h9 309 34) 1) = h10
      have w := w h10 eh10.symm
      refine fv_iinc (L' := [some (.inr (.inr 309)), some (.inl x1), some (.inl x2), some (.inl x3), some (.inl x4), some (.inl x5), some (.inl (ft_add x6 1)), some (.inl x1)]) (ft_d o_Mo_append 57 rfl) rfl rfl (Nat.le_of_ble_eq_true rfl) rfl ?_
      refine fv_goto (pc' := 18) (ft_d o_Mo_append 58 rfl) rfl ?_
      refine fv_mask (M := [true, true, true, true, true, true, true, false]) rfl ?_
      exact w
set_option maxRecDepth 20000 in
theorem b_Mo_truncate_0 {x1 : Int} {h : ftH} {R : Option ftV → ftH → Prop} 
    (w : (((0 : Int) ≤ x1 ∧ x1 ≤ (h 309 34) → (∀ h1 : ftH, h1 = ft_hs h 309 34 (ft_sub (h 309 34) x1) → R (some (.inl (h1 309 34))) h1)) ∧ (¬ ((0 : Int) ≤ x1 ∧ x1 ≤ (h 309 34)) → R (some (.inl ((-1)))) h))) : ft_V k_Mo_truncate 0 [some (.inr (.inr 309)), some (.inl x1)] [] h R := by
  refine fv_iload_n (ft_d o_Mo_truncate 0 rfl) rfl rfl ?_
  refine fv_i2l (ft_d o_Mo_truncate 1 rfl) rfl ?_
  refine fv_lconst (z := 0) (ft_d o_Mo_truncate 2 rfl) rfl rfl ?_
  refine fv_aload_n (ft_d o_Mo_truncate 3 rfl) rfl rfl ?_
  refine fv_getI (ft_d o_Mo_truncate 4 rfl) rfl fl_Mo_376 sh_309 rfl ?_
  refine fv_i2l (ft_d o_Mo_truncate 5 rfl) rfl ?_
  refine fv_callif (st := []) (z := (if (0 : Int) ≤ x1 ∧ x1 ≤ (h 309 34) then 1 else 0)) (Or.inr rfl) rfl (ft_mm (pre := [.inr (.inl (h 309 34)), .inr (.inl 0), .inr (.inl x1)]) rfl) (ft_rnS (K' := k_Mo_in) (As := [.inr (.inl x1), .inr (.inl 0), .inr (.inl (h 309 34))]) (ft_d o_Mo_truncate 6 rfl) ml_Mo_106 lz_Mo_in rfl lw_Mo_in ⟨rfl, rfl, Nat.le_of_ble_eq_true rfl, Nat.le_of_ble_eq_true rfl⟩ rfl rfl (Nat.le_of_ble_eq_true rfl) (c_Mo_in)) ?_
  refine fv_if_ne (tgt := 16) (ft_d o_Mo_truncate 7 rfl) rfl rfl (fun c => ?_) (fun c => ?_)
  · have w := w.1 (ft_if1.mp c)
    refine fv_aload_n (ft_d o_Mo_truncate 10 rfl) rfl rfl ?_
    refine fv_dup (ft_d o_Mo_truncate 11 rfl) rfl rfl ?_
    refine fv_getI (ft_d o_Mo_truncate 12 rfl) rfl fl_Mo_376 sh_309 rfl ?_
    refine fv_iload_n (ft_d o_Mo_truncate 13 rfl) rfl rfl ?_
    refine fv_isub (ft_d o_Mo_truncate 14 rfl) rfl ?_
    refine fv_putI (ft_d o_Mo_truncate 15 rfl) rfl fl_Mo_376 rfl rfl sh_309 rfl ?_
    generalize eh1 : ft_hs h 309 34 (ft_sub (h 309 34) x1) = h1
    have w := w h1 eh1.symm
    refine fv_aload_n (ft_d o_Mo_truncate 16 rfl) rfl rfl ?_
    refine fv_getI (ft_d o_Mo_truncate 17 rfl) rfl fl_Mo_376 sh_309 rfl ?_
    exact fv_ireturn (ft_d o_Mo_truncate 18 rfl) rfl w
  · have w := w.2 (ft_if0.mp c)
    refine fv_iconst (ft_d o_Mo_truncate 8 rfl) rfl rfl ?_
    exact fv_ireturn (ft_d o_Mo_truncate 9 rfl) rfl w
set_option maxRecDepth 20000 in
theorem b_Mo_wordFrom_0 {x1 : Int} {h : ftH} {R : Option ftV → ftH → Prop} 
    (w : ft_V k_Mo_wordFrom 4 [some (.inr (.inr 309)), none, some (.inl 0), some (.inl x1)] [] h R) : ft_V k_Mo_wordFrom 0 [some (.inr (.inr 309)), some (.inl x1), none, none] [] h R := by
  refine fv_iconst (ft_d o_Mo_wordFrom 0 rfl) rfl rfl ?_
  refine fv_istore_n (L' := [some (.inr (.inr 309)), some (.inl x1), some (.inl 0), none]) (ft_d o_Mo_wordFrom 1 rfl) rfl (Nat.le_of_ble_eq_true rfl) rfl ?_
  refine fv_iload_n (ft_d o_Mo_wordFrom 2 rfl) rfl rfl ?_
  refine fv_istore_n (L' := [some (.inr (.inr 309)), some (.inl x1), some (.inl 0), some (.inl x1)]) (ft_d o_Mo_wordFrom 3 rfl) rfl (Nat.le_of_ble_eq_true rfl) rfl ?_
  refine fv_mask (M := [true, false, true, true]) rfl ?_
  exact w
set_option maxRecDepth 20000 in
theorem b_Mo_wordFrom_4 {x2 : Int} {x3 : Int} {h : ftH} {R : Option ftV → ftH → Prop} 
    (w : ((x3 ≤ 0 → R (some (.inl x2)) h) ∧ (¬ (x3 ≤ 0) → ((0 ≤ x2 ∧ x2 < 30) ∧ ((¬ (h 331 x2.toNat = 0) → ft_V k_Mo_wordFrom 4 [some (.inr (.inr 309)), none, some (.inl (ft_add x2 1)), some (.inl x3)] [] h R) ∧ (h 331 x2.toNat = 0 → ft_V k_Mo_wordFrom 4 [some (.inr (.inr 309)), none, some (.inl (ft_add x2 1)), some (.inl (ft_add x3 (-1)))] [] h R)))))) : ft_V k_Mo_wordFrom 4 [some (.inr (.inr 309)), none, some (.inl x2), some (.inl x3)] [] h R := by
  refine fv_iload_n (ft_d o_Mo_wordFrom 4 rfl) rfl rfl ?_
  refine fv_if_le (tgt := 26) (ft_d o_Mo_wordFrom 5 rfl) rfl rfl (fun c => ?_) (fun c => ?_)
  · have w := w.1 c
    refine fv_iload_n (ft_d o_Mo_wordFrom 14 rfl) rfl rfl ?_
    exact fv_ireturn (ft_d o_Mo_wordFrom 15 rfl) rfl w
  · have w := w.2 c
    refine fv_aload_n (ft_d o_Mo_wordFrom 6 rfl) rfl rfl ?_
    refine fv_getR (b := 331) (ft_d o_Mo_wordFrom 7 rfl) rfl fl_Mo_77 sh_309 rfl ly_309_35 ?_
    refine fv_iload_n (ft_d o_Mo_wordFrom 8 rfl) rfl rfl ?_
    refine fv_bald (ft_d o_Mo_wordFrom 9 rfl) rfl sh_331 w.1 ?_
    have w := w.2
    refine fv_if_ne (tgt := 20) (ft_d o_Mo_wordFrom 10 rfl) rfl rfl (fun c => ?_) (fun c => ?_)
    · have w := w.1 c
      refine fv_iinc (L' := [some (.inr (.inr 309)), none, some (.inl (ft_add x2 1)), some (.inl x3)]) (ft_d o_Mo_wordFrom 12 rfl) rfl rfl (Nat.le_of_ble_eq_true rfl) rfl ?_
      refine fv_goto (pc' := 4) (ft_d o_Mo_wordFrom 13 rfl) rfl ?_
      exact w
    · have w := w.2 c
      refine fv_iinc (L' := [some (.inr (.inr 309)), none, some (.inl x2), some (.inl (ft_add x3 (-1)))]) (ft_d o_Mo_wordFrom 11 rfl) rfl rfl (Nat.le_of_ble_eq_true rfl) rfl ?_
      refine fv_iinc (L' := [some (.inr (.inr 309)), none, some (.inl (ft_add x2 1)), some (.inl (ft_add x3 (-1)))]) (ft_d o_Mo_wordFrom 12 rfl) rfl rfl (Nat.le_of_ble_eq_true rfl) rfl ?_
      refine fv_goto (pc' := 4) (ft_d o_Mo_wordFrom 13 rfl) rfl ?_
      exact w
set_option maxRecDepth 20000 in
theorem b_Mo_isSpelt_0 {x1 : Int} {h : ftH} {R : Option ftV → ftH → Prop} 
    (w : (∃ R1 : Option ftV → ftH → Prop, ft_C k_Mo_wordFrom [.inr (.inr 309), .inl x1] h R1 ∧ ∀ (z3 : Int) (h1 : ftH), ft_in z3 → R1 (some (.inl z3)) h1 → ft_V k_Mo_isSpelt 8 [some (.inr (.inr 309)), none, some (.inl z3), some (.inl 0)] [] h1 R)) : ft_V k_Mo_isSpelt 0 [some (.inr (.inr 309)), some (.inl x1), none, none] [] h R := by
  refine fv_aload_n (ft_d o_Mo_isSpelt 0 rfl) rfl rfl ?_
  refine fv_iload_n (ft_d o_Mo_isSpelt 1 rfl) rfl rfl ?_
  obtain ⟨R1, c2, w⟩ := w
  refine fv_calli (st := []) (Or.inl rfl) rfl (ft_mm (pre := [.inl x1, .inr (.inr 309)]) rfl) (ft_rnV (K' := k_Mo_wordFrom) (As := [.inl x1]) (ft_d o_Mo_isSpelt 2 rfl) ml_Mo_382 li_Mo_wordFrom.1 li_Mo_wordFrom.2 lw_Mo_wordFrom ⟨rfl, rfl, Nat.le_of_ble_eq_true rfl, Nat.le_of_ble_eq_true rfl⟩ sh_309 rfl rfl rfl rfl (Nat.le_of_ble_eq_true rfl) c2) (fun z3 h1 hz hw => ?_)
  have w := w z3 h1 hz hw
  refine fv_istore_n (L' := [some (.inr (.inr 309)), some (.inl x1), some (.inl z3), none]) (ft_d o_Mo_isSpelt 3 rfl) rfl (Nat.le_of_ble_eq_true rfl) rfl ?_
  refine fv_iconst (ft_d o_Mo_isSpelt 4 rfl) rfl rfl ?_
  refine fv_istore_n (L' := [some (.inr (.inr 309)), some (.inl x1), some (.inl z3), some (.inl 0)]) (ft_d o_Mo_isSpelt 5 rfl) rfl (Nat.le_of_ble_eq_true rfl) rfl ?_
  refine fv_mask (M := [true, false, true, true]) rfl ?_
  exact w
set_option maxRecDepth 20000 in
theorem b_Mo_isSpelt_8 {x2 : Int} {x3 : Int} {h : ftH} {R : Option ftV → ftH → Prop} 
    (w : ((h 309 36 ≤ ft_add (h 309 38) x3 → ((¬ (ft_add (h 309 38) x3 = h 309 36) → R (some (.inl 0)) h) ∧ (ft_add (h 309 38) x3 = h 309 36 → ((0 ≤ ft_add x2 x3 ∧ ft_add x2 x3 < 30) ∧ ((¬ (h 331 (ft_add x2 x3).toNat = 0) → R (some (.inl 0)) h) ∧ (h 331 (ft_add x2 x3).toNat = 0 → R (some (.inl 1)) h)))))) ∧ (¬ (h 309 36 ≤ ft_add (h 309 38) x3) → ((0 ≤ ft_add x2 x3 ∧ ft_add x2 x3 < 30) ∧ ((0 ≤ ft_add (h 309 38) x3 ∧ ft_add (h 309 38) x3 < 2200) ∧ ((¬ (h 331 (ft_add x2 x3).toNat = h 330 (ft_add (h 309 38) x3).toNat) → ((¬ (ft_add (h 309 38) x3 = h 309 36) → R (some (.inl 0)) h) ∧ (ft_add (h 309 38) x3 = h 309 36 → ((0 ≤ ft_add x2 x3 ∧ ft_add x2 x3 < 30) ∧ ((¬ (h 331 (ft_add x2 x3).toNat = 0) → R (some (.inl 0)) h) ∧ (h 331 (ft_add x2 x3).toNat = 0 → R (some (.inl 1)) h)))))) ∧ (h 331 (ft_add x2 x3).toNat = h 330 (ft_add (h 309 38) x3).toNat → ft_V k_Mo_isSpelt 8 [some (.inr (.inr 309)), none, some (.inl x2), some (.inl (ft_add x3 1))] [] h R))))))) : ft_V k_Mo_isSpelt 8 [some (.inr (.inr 309)), none, some (.inl x2), some (.inl x3)] [] h R := by
  refine fv_aload_n (ft_d o_Mo_isSpelt 6 rfl) rfl rfl ?_
  refine fv_getI (ft_d o_Mo_isSpelt 7 rfl) rfl fl_Mo_385 sh_309 rfl ?_
  refine fv_iload_n (ft_d o_Mo_isSpelt 8 rfl) rfl rfl ?_
  refine fv_iadd (ft_d o_Mo_isSpelt 9 rfl) rfl ?_
  refine fv_aload_n (ft_d o_Mo_isSpelt 10 rfl) rfl rfl ?_
  refine fv_getI (ft_d o_Mo_isSpelt 11 rfl) rfl fl_Mo_379 sh_309 rfl ?_
  refine fv_icmp_ge (tgt := 49) (ft_d o_Mo_isSpelt 12 rfl) rfl rfl (fun c => ?_) (fun c => ?_)
  · have w := w.1 c
    refine fv_aload_n (ft_d o_Mo_isSpelt 29 rfl) rfl rfl ?_
    refine fv_getI (ft_d o_Mo_isSpelt 30 rfl) rfl fl_Mo_385 sh_309 rfl ?_
    refine fv_iload_n (ft_d o_Mo_isSpelt 31 rfl) rfl rfl ?_
    refine fv_iadd (ft_d o_Mo_isSpelt 32 rfl) rfl ?_
    refine fv_aload_n (ft_d o_Mo_isSpelt 33 rfl) rfl rfl ?_
    refine fv_getI (ft_d o_Mo_isSpelt 34 rfl) rfl fl_Mo_379 sh_309 rfl ?_
    refine fv_icmp_ne (tgt := 77) (ft_d o_Mo_isSpelt 35 rfl) rfl rfl (fun c => ?_) (fun c => ?_)
    · have w := w.1 c
      refine fv_iconst (ft_d o_Mo_isSpelt 45 rfl) rfl rfl ?_
      exact fv_zreturn (ft_d o_Mo_isSpelt 46 rfl) rfl (Or.inl rfl) w
    · have w := w.2 c
      refine fv_aload_n (ft_d o_Mo_isSpelt 36 rfl) rfl rfl ?_
      refine fv_getR (b := 331) (ft_d o_Mo_isSpelt 37 rfl) rfl fl_Mo_77 sh_309 rfl ly_309_35 ?_
      refine fv_iload_n (ft_d o_Mo_isSpelt 38 rfl) rfl rfl ?_
      refine fv_iload_n (ft_d o_Mo_isSpelt 39 rfl) rfl rfl ?_
      refine fv_iadd (ft_d o_Mo_isSpelt 40 rfl) rfl ?_
      refine fv_bald (ft_d o_Mo_isSpelt 41 rfl) rfl sh_331 w.1 ?_
      have w := w.2
      refine fv_if_ne (tgt := 77) (ft_d o_Mo_isSpelt 42 rfl) rfl rfl (fun c => ?_) (fun c => ?_)
      · have w := w.1 c
        refine fv_iconst (ft_d o_Mo_isSpelt 45 rfl) rfl rfl ?_
        exact fv_zreturn (ft_d o_Mo_isSpelt 46 rfl) rfl (Or.inl rfl) w
      · have w := w.2 c
        refine fv_iconst (ft_d o_Mo_isSpelt 43 rfl) rfl rfl ?_
        refine fv_goto (pc' := 78) (ft_d o_Mo_isSpelt 44 rfl) rfl ?_
        exact fv_zreturn (ft_d o_Mo_isSpelt 46 rfl) rfl (Or.inr rfl) w
  · have w := w.2 c
    refine fv_aload_n (ft_d o_Mo_isSpelt 13 rfl) rfl rfl ?_
    refine fv_getR (b := 331) (ft_d o_Mo_isSpelt 14 rfl) rfl fl_Mo_77 sh_309 rfl ly_309_35 ?_
    refine fv_iload_n (ft_d o_Mo_isSpelt 15 rfl) rfl rfl ?_
    refine fv_iload_n (ft_d o_Mo_isSpelt 16 rfl) rfl rfl ?_
    refine fv_iadd (ft_d o_Mo_isSpelt 17 rfl) rfl ?_
    refine fv_bald (ft_d o_Mo_isSpelt 18 rfl) rfl sh_331 w.1 ?_
    have w := w.2
    refine fv_aload_n (ft_d o_Mo_isSpelt 19 rfl) rfl rfl ?_
    refine fv_getR (b := 330) (ft_d o_Mo_isSpelt 20 rfl) rfl fl_Mo_74 sh_309 rfl ly_309_33 ?_
    refine fv_aload_n (ft_d o_Mo_isSpelt 21 rfl) rfl rfl ?_
    refine fv_getI (ft_d o_Mo_isSpelt 22 rfl) rfl fl_Mo_385 sh_309 rfl ?_
    refine fv_iload_n (ft_d o_Mo_isSpelt 23 rfl) rfl rfl ?_
    refine fv_iadd (ft_d o_Mo_isSpelt 24 rfl) rfl ?_
    refine fv_iald (ft_d o_Mo_isSpelt 25 rfl) rfl sh_330 w.1 ?_
    have w := w.2
    refine fv_icmp_ne (tgt := 49) (ft_d o_Mo_isSpelt 26 rfl) rfl rfl (fun c => ?_) (fun c => ?_)
    · have w := w.1 c
      refine fv_aload_n (ft_d o_Mo_isSpelt 29 rfl) rfl rfl ?_
      refine fv_getI (ft_d o_Mo_isSpelt 30 rfl) rfl fl_Mo_385 sh_309 rfl ?_
      refine fv_iload_n (ft_d o_Mo_isSpelt 31 rfl) rfl rfl ?_
      refine fv_iadd (ft_d o_Mo_isSpelt 32 rfl) rfl ?_
      refine fv_aload_n (ft_d o_Mo_isSpelt 33 rfl) rfl rfl ?_
      refine fv_getI (ft_d o_Mo_isSpelt 34 rfl) rfl fl_Mo_379 sh_309 rfl ?_
      refine fv_icmp_ne (tgt := 77) (ft_d o_Mo_isSpelt 35 rfl) rfl rfl (fun c => ?_) (fun c => ?_)
      · have w := w.1 c
        refine fv_iconst (ft_d o_Mo_isSpelt 45 rfl) rfl rfl ?_
        exact fv_zreturn (ft_d o_Mo_isSpelt 46 rfl) rfl (Or.inl rfl) w
      · have w := w.2 c
        refine fv_aload_n (ft_d o_Mo_isSpelt 36 rfl) rfl rfl ?_
        refine fv_getR (b := 331) (ft_d o_Mo_isSpelt 37 rfl) rfl fl_Mo_77 sh_309 rfl ly_309_35 ?_
        refine fv_iload_n (ft_d o_Mo_isSpelt 38 rfl) rfl rfl ?_
        refine fv_iload_n (ft_d o_Mo_isSpelt 39 rfl) rfl rfl ?_
        refine fv_iadd (ft_d o_Mo_isSpelt 40 rfl) rfl ?_
        refine fv_bald (ft_d o_Mo_isSpelt 41 rfl) rfl sh_331 w.1 ?_
        have w := w.2
        refine fv_if_ne (tgt := 77) (ft_d o_Mo_isSpelt 42 rfl) rfl rfl (fun c => ?_) (fun c => ?_)
        · have w := w.1 c
          refine fv_iconst (ft_d o_Mo_isSpelt 45 rfl) rfl rfl ?_
          exact fv_zreturn (ft_d o_Mo_isSpelt 46 rfl) rfl (Or.inl rfl) w
        · have w := w.2 c
          refine fv_iconst (ft_d o_Mo_isSpelt 43 rfl) rfl rfl ?_
          refine fv_goto (pc' := 78) (ft_d o_Mo_isSpelt 44 rfl) rfl ?_
          exact fv_zreturn (ft_d o_Mo_isSpelt 46 rfl) rfl (Or.inr rfl) w
    · have w := w.2 c
      refine fv_iinc (L' := [some (.inr (.inr 309)), none, some (.inl x2), some (.inl (ft_add x3 1))]) (ft_d o_Mo_isSpelt 27 rfl) rfl rfl (Nat.le_of_ble_eq_true rfl) rfl ?_
      refine fv_goto (pc' := 8) (ft_d o_Mo_isSpelt 28 rfl) rfl ?_
      exact w
set_option maxRecDepth 20000 in
theorem b_Mo_goesOn_0  {h : ftH} {R : Option ftV → ftH → Prop} 
    (w : ((0 ≤ h 309 36 ∧ h 309 34 ≤ 2200) ∧ ((m_here h = 32 → ft_V k_Mo_goesOn 18 [some (.inr (.inr 309)), none, none] [] h R) ∧ (¬ (m_here h = 32) → ((0 ≤ h 309 36 ∧ h 309 34 ≤ 2200) ∧ ((¬ (m_here h = 10) → (∀ h1 : ftH, h1 = ft_hs h 309 38 (h 309 36) → ((0 ≤ h1 309 36 ∧ h1 309 34 ≤ 2200) ∧ (∀ n7 : Int, n7 = m_here h1 → ((¬ (n7 = (-1)) → ((¬ ((97 : Int) ≤ n7 ∧ n7 ≤ (122 : Int)) → ((¬ ((48 : Int) ≤ n7 ∧ n7 ≤ (57 : Int)) → (∀ h2 : ftH, h2 = ft_hs h1 309 36 (ft_add (h1 309 36) 1) → (∀ h3 : ftH, h3 = ft_hs h2 309 40 n7 → ((n7 = 59 → ft_V k_Mo_goesOn 283 [none, none, none] [.inr (.inr 309)] h3 R) ∧ (¬ (n7 = 59) → ((n7 = 46 → ft_V k_Mo_goesOn 283 [none, none, none] [.inr (.inr 309)] h3 R) ∧ (¬ (n7 = 46) → ((¬ (n7 = 47) → (∀ h4 : ftH, h4 = ft_hs h3 309 37 4 → R none h4)) ∧ (n7 = 47 → ft_V k_Mo_goesOn 283 [none, none, none] [.inr (.inr 309)] h3 R))))))))) ∧ ((48 : Int) ≤ n7 ∧ n7 ≤ (57 : Int) → (∀ h5 : ftH, h5 = ft_hs h1 309 41 0 → ft_V k_Mo_goesOn 162 [some (.inr (.inr 309)), none, none] [] h5 R)))) ∧ ((97 : Int) ≤ n7 ∧ n7 ≤ (122 : Int) → ft_V k_Mo_goesOn 71 [some (.inr (.inr 309)), none, none] [] h1 R))) ∧ (n7 = (-1) → (∀ h6 : ftH, h6 = ft_hs h1 309 37 0 → R none h6))))))) ∧ (m_here h = 10 → ft_V k_Mo_goesOn 18 [some (.inr (.inr 309)), none, none] [] h R))))))) : ft_V k_Mo_goesOn 0 [some (.inr (.inr 309)), none, none] [] h R := by
  refine fv_aload_n (ft_d o_Mo_goesOn 0 rfl) rfl rfl ?_
  refine fv_callif (st := []) (z := m_here h) (Or.inl rfl) rfl (ft_mm (pre := [.inr (.inr 309)]) rfl) (ft_rnV (K' := k_Mo_here) (As := []) (ft_d o_Mo_goesOn 1 rfl) ml_Mo_388 li_Mo_here.1 li_Mo_here.2 lw_Mo_here ⟨rfl, rfl, Nat.le_of_ble_eq_true rfl, Nat.le_of_ble_eq_true rfl⟩ sh_309 rfl rfl rfl rfl (Nat.le_of_ble_eq_true rfl) (c_Mo_here w.1)) ?_
  have w := w.2
  refine fv_bipush (ft_d o_Mo_goesOn 2 rfl) rfl rfl ?_
  refine fv_icmp_eq (tgt := 18) (ft_d o_Mo_goesOn 3 rfl) rfl rfl (fun c => ?_) (fun c => ?_)
  · have w := w.1 c
    exact w
  · have w := w.2 c
    refine fv_aload_n (ft_d o_Mo_goesOn 4 rfl) rfl rfl ?_
    refine fv_callif (st := []) (z := m_here h) (Or.inl rfl) rfl (ft_mm (pre := [.inr (.inr 309)]) rfl) (ft_rnV (K' := k_Mo_here) (As := []) (ft_d o_Mo_goesOn 5 rfl) ml_Mo_388 li_Mo_here.1 li_Mo_here.2 lw_Mo_here ⟨rfl, rfl, Nat.le_of_ble_eq_true rfl, Nat.le_of_ble_eq_true rfl⟩ sh_309 rfl rfl rfl rfl (Nat.le_of_ble_eq_true rfl) (c_Mo_here w.1)) ?_
    have w := w.2
    refine fv_bipush (ft_d o_Mo_goesOn 6 rfl) rfl rfl ?_
    refine fv_icmp_ne (tgt := 31) (ft_d o_Mo_goesOn 7 rfl) rfl rfl (fun c => ?_) (fun c => ?_)
    · have w := w.1 c
      refine fv_aload_n (ft_d o_Mo_goesOn 15 rfl) rfl rfl ?_
      refine fv_aload_n (ft_d o_Mo_goesOn 16 rfl) rfl rfl ?_
      refine fv_getI (ft_d o_Mo_goesOn 17 rfl) rfl fl_Mo_379 sh_309 rfl ?_
      refine fv_putI (ft_d o_Mo_goesOn 18 rfl) rfl fl_Mo_385 rfl rfl sh_309 rfl ?_
      generalize eh1 : ft_hs h 309 38 (h 309 36) = h1
      have w := w h1 eh1.symm
      refine fv_aload_n (ft_d o_Mo_goesOn 19 rfl) rfl rfl ?_
      refine fv_callif (st := []) (z := m_here h1) (Or.inl rfl) rfl (ft_mm (pre := [.inr (.inr 309)]) rfl) (ft_rnV (K' := k_Mo_here) (As := []) (ft_d o_Mo_goesOn 20 rfl) ml_Mo_388 li_Mo_here.1 li_Mo_here.2 lw_Mo_here ⟨rfl, rfl, Nat.le_of_ble_eq_true rfl, Nat.le_of_ble_eq_true rfl⟩ sh_309 rfl rfl rfl rfl (Nat.le_of_ble_eq_true rfl) (c_Mo_here w.1)) ?_
      have w := w.2
      generalize en7 : m_here h1 = n7
      have w := w n7 en7.symm
      refine fv_istore_n (L' := [some (.inr (.inr 309)), some (.inl n7), none]) (ft_d o_Mo_goesOn 21 rfl) rfl (Nat.le_of_ble_eq_true rfl) rfl ?_
      refine fv_iload_n (ft_d o_Mo_goesOn 22 rfl) rfl rfl ?_
      refine fv_iconst (ft_d o_Mo_goesOn 23 rfl) rfl rfl ?_
      refine fv_icmp_ne (tgt := 57) (ft_d o_Mo_goesOn 24 rfl) rfl rfl (fun c => ?_) (fun c => ?_)
      · have w := w.1 c
        refine fv_iload_n (ft_d o_Mo_goesOn 29 rfl) rfl rfl ?_
        refine fv_i2l (ft_d o_Mo_goesOn 30 rfl) rfl ?_
        refine fv_ldc2 (v := 97) (z := 97) (ft_d o_Mo_goesOn 31 rfl) rfl (ft_gt 1665 (by decide +kernel) rfl) rfl ?_
        refine fv_ldc2 (v := 122) (z := 122) (ft_d o_Mo_goesOn 32 rfl) rfl (ft_gt 1666 (by decide +kernel) rfl) rfl ?_
        refine fv_callif (st := []) (z := (if (97 : Int) ≤ n7 ∧ n7 ≤ (122 : Int) then 1 else 0)) (Or.inr rfl) rfl (ft_mm (pre := [.inr (.inl 122), .inr (.inl 97), .inr (.inl n7)]) rfl) (ft_rnS (K' := k_Mo_in) (As := [.inr (.inl n7), .inr (.inl 97), .inr (.inl 122)]) (ft_d o_Mo_goesOn 33 rfl) ml_Mo_106 lz_Mo_in rfl lw_Mo_in ⟨rfl, rfl, Nat.le_of_ble_eq_true rfl, Nat.le_of_ble_eq_true rfl⟩ rfl rfl (Nat.le_of_ble_eq_true rfl) (c_Mo_in)) ?_
        refine fv_if_eq (tgt := 143) (ft_d o_Mo_goesOn 34 rfl) rfl rfl (fun c => ?_) (fun c => ?_)
        · have w := w.1 (ft_if0.mp c)
          refine fv_iload_n (ft_d o_Mo_goesOn 71 rfl) rfl rfl ?_
          refine fv_i2l (ft_d o_Mo_goesOn 72 rfl) rfl ?_
          refine fv_ldc2 (v := 48) (z := 48) (ft_d o_Mo_goesOn 73 rfl) rfl (ft_gt 1675 (by decide +kernel) rfl) rfl ?_
          refine fv_ldc2 (v := 57) (z := 57) (ft_d o_Mo_goesOn 74 rfl) rfl (ft_gt 1676 (by decide +kernel) rfl) rfl ?_
          refine fv_callif (st := []) (z := (if (48 : Int) ≤ n7 ∧ n7 ≤ (57 : Int) then 1 else 0)) (Or.inr rfl) rfl (ft_mm (pre := [.inr (.inl 57), .inr (.inl 48), .inr (.inl n7)]) rfl) (ft_rnS (K' := k_Mo_in) (As := [.inr (.inl n7), .inr (.inl 48), .inr (.inl 57)]) (ft_d o_Mo_goesOn 75 rfl) ml_Mo_106 lz_Mo_in rfl lw_Mo_in ⟨rfl, rfl, Nat.le_of_ble_eq_true rfl, Nat.le_of_ble_eq_true rfl⟩ rfl rfl (Nat.le_of_ble_eq_true rfl) (c_Mo_in)) ?_
          refine fv_if_eq (tgt := 249) (ft_d o_Mo_goesOn 76 rfl) rfl rfl (fun c => ?_) (fun c => ?_)
          · have w := w.1 (ft_if0.mp c)
            refine fv_aload_n (ft_d o_Mo_goesOn 125 rfl) rfl rfl ?_
            refine fv_dup (ft_d o_Mo_goesOn 126 rfl) rfl rfl ?_
            refine fv_getI (ft_d o_Mo_goesOn 127 rfl) rfl fl_Mo_379 sh_309 rfl ?_
            refine fv_iconst (ft_d o_Mo_goesOn 128 rfl) rfl rfl ?_
            refine fv_iadd (ft_d o_Mo_goesOn 129 rfl) rfl ?_
            refine fv_putI (ft_d o_Mo_goesOn 130 rfl) rfl fl_Mo_379 rfl rfl sh_309 rfl ?_
            generalize eh2 : ft_hs h1 309 36 (ft_add (h1 309 36) 1) = h2
            have w := w h2 eh2.symm
            refine fv_aload_n (ft_d o_Mo_goesOn 131 rfl) rfl rfl ?_
            refine fv_iload_n (ft_d o_Mo_goesOn 132 rfl) rfl rfl ?_
            refine fv_putI (ft_d o_Mo_goesOn 133 rfl) rfl fl_Mo_411 rfl rfl sh_309 rfl ?_
            generalize eh3 : ft_hs h2 309 40 n7 = h3
            have w := w h3 eh3.symm
            refine fv_aload_n (ft_d o_Mo_goesOn 134 rfl) rfl rfl ?_
            refine fv_iload_n (ft_d o_Mo_goesOn 135 rfl) rfl rfl ?_
            refine fv_bipush (ft_d o_Mo_goesOn 136 rfl) rfl rfl ?_
            refine fv_icmp_eq (tgt := 283) (ft_d o_Mo_goesOn 137 rfl) rfl rfl (fun c => ?_) (fun c => ?_)
            · have w := w.1 c
              refine fv_mask (M := [false, false, false]) rfl ?_
              exact w
            · have w := w.2 c
              refine fv_iload_n (ft_d o_Mo_goesOn 138 rfl) rfl rfl ?_
              refine fv_bipush (ft_d o_Mo_goesOn 139 rfl) rfl rfl ?_
              refine fv_icmp_eq (tgt := 283) (ft_d o_Mo_goesOn 140 rfl) rfl rfl (fun c => ?_) (fun c => ?_)
              · have w := w.1 c
                refine fv_mask (M := [false, false, false]) rfl ?_
                exact w
              · have w := w.2 c
                refine fv_iload_n (ft_d o_Mo_goesOn 141 rfl) rfl rfl ?_
                refine fv_bipush (ft_d o_Mo_goesOn 142 rfl) rfl rfl ?_
                refine fv_icmp_ne (tgt := 287) (ft_d o_Mo_goesOn 143 rfl) rfl rfl (fun c => ?_) (fun c => ?_)
                · have w := w.1 c
                  refine fv_iconst (ft_d o_Mo_goesOn 146 rfl) rfl rfl ?_
                  refine fv_putI (ft_d o_Mo_goesOn 147 rfl) rfl fl_Mo_391 rfl rfl sh_309 rfl ?_
                  generalize eh4 : ft_hs h3 309 37 4 = h4
                  have w := w h4 eh4.symm
                  exact fv_return (ft_d o_Mo_goesOn 148 rfl) rfl w
                · have w := w.2 c
                  refine fv_mask (M := [false, false, false]) rfl ?_
                  exact w
          · have w := w.2 (ft_if1.mp c)
            refine fv_aload_n (ft_d o_Mo_goesOn 77 rfl) rfl rfl ?_
            refine fv_iconst (ft_d o_Mo_goesOn 78 rfl) rfl rfl ?_
            refine fv_putI (ft_d o_Mo_goesOn 79 rfl) rfl fl_Mo_408 rfl rfl sh_309 rfl ?_
            generalize eh5 : ft_hs h1 309 41 0 = h5
            have w := w h5 eh5.symm
            refine fv_mask (M := [true, false, false]) rfl ?_
            exact w
        · have w := w.2 (ft_if1.mp c)
          refine fv_mask (M := [true, false, false]) rfl ?_
          exact w
      · have w := w.2 c
        refine fv_aload_n (ft_d o_Mo_goesOn 25 rfl) rfl rfl ?_
        refine fv_iconst (ft_d o_Mo_goesOn 26 rfl) rfl rfl ?_
        refine fv_putI (ft_d o_Mo_goesOn 27 rfl) rfl fl_Mo_391 rfl rfl sh_309 rfl ?_
        generalize eh6 : ft_hs h1 309 37 0 = h6
        have w := w h6 eh6.symm
        refine fv_goto (pc' := 291) (ft_d o_Mo_goesOn 28 rfl) rfl ?_
        exact fv_return (ft_d o_Mo_goesOn 148 rfl) rfl w
    · have w := w.2 c
      exact w
set_option maxRecDepth 20000 in
theorem b_Mo_goesOn_18  {h : ftH} {R : Option ftV → ftH → Prop} 
    (w : (∀ h1 : ftH, h1 = ft_hs h 309 36 (ft_add (h 309 36) 1) → ft_V k_Mo_goesOn 0 [some (.inr (.inr 309)), none, none] [] h1 R)) : ft_V k_Mo_goesOn 18 [some (.inr (.inr 309)), none, none] [] h R := by
  refine fv_aload_n (ft_d o_Mo_goesOn 8 rfl) rfl rfl ?_
  refine fv_dup (ft_d o_Mo_goesOn 9 rfl) rfl rfl ?_
  refine fv_getI (ft_d o_Mo_goesOn 10 rfl) rfl fl_Mo_379 sh_309 rfl ?_
  refine fv_iconst (ft_d o_Mo_goesOn 11 rfl) rfl rfl ?_
  refine fv_iadd (ft_d o_Mo_goesOn 12 rfl) rfl ?_
  refine fv_putI (ft_d o_Mo_goesOn 13 rfl) rfl fl_Mo_379 rfl rfl sh_309 rfl ?_
  generalize eh1 : ft_hs h 309 36 (ft_add (h 309 36) 1) = h1
  have w := w h1 eh1.symm
  refine fv_goto (pc' := 0) (ft_d o_Mo_goesOn 14 rfl) rfl ?_
  exact w
set_option maxRecDepth 20000 in
theorem b_Mo_goesOn_71  {h : ftH} {R : Option ftV → ftH → Prop} 
    (w : ((0 ≤ h 309 36 ∧ h 309 34 ≤ 2200) ∧ ((¬ ((97 : Int) ≤ (m_here h) ∧ (m_here h) ≤ (122 : Int)) → (∀ h1 : ftH, h1 = ft_hs h 309 37 4 → ft_V k_Mo_goesOn 108 [some (.inr (.inr 309)), none, some (.inl 0)] [] h1 R)) ∧ ((97 : Int) ≤ (m_here h) ∧ (m_here h) ≤ (122 : Int) → (∀ h2 : ftH, h2 = ft_hs h 309 36 (ft_add (h 309 36) 1) → ft_V k_Mo_goesOn 71 [some (.inr (.inr 309)), none, none] [] h2 R))))) : ft_V k_Mo_goesOn 71 [some (.inr (.inr 309)), none, none] [] h R := by
  refine fv_aload_n (ft_d o_Mo_goesOn 35 rfl) rfl rfl ?_
  refine fv_callif (st := []) (z := m_here h) (Or.inl rfl) rfl (ft_mm (pre := [.inr (.inr 309)]) rfl) (ft_rnV (K' := k_Mo_here) (As := []) (ft_d o_Mo_goesOn 36 rfl) ml_Mo_388 li_Mo_here.1 li_Mo_here.2 lw_Mo_here ⟨rfl, rfl, Nat.le_of_ble_eq_true rfl, Nat.le_of_ble_eq_true rfl⟩ sh_309 rfl rfl rfl rfl (Nat.le_of_ble_eq_true rfl) (c_Mo_here w.1)) ?_
  have w := w.2
  refine fv_i2l (ft_d o_Mo_goesOn 37 rfl) rfl ?_
  refine fv_ldc2 (v := 97) (z := 97) (ft_d o_Mo_goesOn 38 rfl) rfl (ft_gt 1665 (by decide +kernel) rfl) rfl ?_
  refine fv_ldc2 (v := 122) (z := 122) (ft_d o_Mo_goesOn 39 rfl) rfl (ft_gt 1666 (by decide +kernel) rfl) rfl ?_
  refine fv_callif (st := []) (z := (if (97 : Int) ≤ (m_here h) ∧ (m_here h) ≤ (122 : Int) then 1 else 0)) (Or.inr rfl) rfl (ft_mm (pre := [.inr (.inl 122), .inr (.inl 97), .inr (.inl (m_here h))]) rfl) (ft_rnS (K' := k_Mo_in) (As := [.inr (.inl (m_here h)), .inr (.inl 97), .inr (.inl 122)]) (ft_d o_Mo_goesOn 40 rfl) ml_Mo_106 lz_Mo_in rfl lw_Mo_in ⟨rfl, rfl, Nat.le_of_ble_eq_true rfl, Nat.le_of_ble_eq_true rfl⟩ rfl rfl (Nat.le_of_ble_eq_true rfl) (c_Mo_in)) ?_
  refine fv_if_eq (tgt := 101) (ft_d o_Mo_goesOn 41 rfl) rfl rfl (fun c => ?_) (fun c => ?_)
  · have w := w.1 (ft_if0.mp c)
    refine fv_aload_n (ft_d o_Mo_goesOn 49 rfl) rfl rfl ?_
    refine fv_iconst (ft_d o_Mo_goesOn 50 rfl) rfl rfl ?_
    refine fv_putI (ft_d o_Mo_goesOn 51 rfl) rfl fl_Mo_391 rfl rfl sh_309 rfl ?_
    generalize eh1 : ft_hs h 309 37 4 = h1
    have w := w h1 eh1.symm
    refine fv_iconst (ft_d o_Mo_goesOn 52 rfl) rfl rfl ?_
    refine fv_istore_n (L' := [some (.inr (.inr 309)), none, some (.inl 0)]) (ft_d o_Mo_goesOn 53 rfl) rfl (Nat.le_of_ble_eq_true rfl) rfl ?_
    exact w
  · have w := w.2 (ft_if1.mp c)
    refine fv_aload_n (ft_d o_Mo_goesOn 42 rfl) rfl rfl ?_
    refine fv_dup (ft_d o_Mo_goesOn 43 rfl) rfl rfl ?_
    refine fv_getI (ft_d o_Mo_goesOn 44 rfl) rfl fl_Mo_379 sh_309 rfl ?_
    refine fv_iconst (ft_d o_Mo_goesOn 45 rfl) rfl rfl ?_
    refine fv_iadd (ft_d o_Mo_goesOn 46 rfl) rfl ?_
    refine fv_putI (ft_d o_Mo_goesOn 47 rfl) rfl fl_Mo_379 rfl rfl sh_309 rfl ?_
    generalize eh2 : ft_hs h 309 36 (ft_add (h 309 36) 1) = h2
    have w := w h2 eh2.symm
    refine fv_goto (pc' := 71) (ft_d o_Mo_goesOn 48 rfl) rfl ?_
    exact w
set_option maxRecDepth 20000 in
theorem b_Mo_goesOn_108 {x2 : Int} {h : ftH} {R : Option ftV → ftH → Prop} 
    (w : ((5 ≤ x2 → R none h) ∧ (¬ (5 ≤ x2) → (∃ R1 : Option ftV → ftH → Prop, ft_C k_Mo_isSpelt [.inr (.inr 309), .inl x2] h R1 ∧ ∀ (z3 : Int) (h1 : ftH), ft_in z3 → R1 (some (.inl z3)) h1 → ((¬ (z3 = 0) → (∀ h2 : ftH, h2 = ft_hs h1 309 37 1 → (∀ h3 : ftH, h3 = ft_hs h2 309 39 x2 → ft_V k_Mo_goesOn 134 [some (.inr (.inr 309)), none, some (.inl x2)] [] h3 R))) ∧ (z3 = 0 → ft_V k_Mo_goesOn 134 [some (.inr (.inr 309)), none, some (.inl x2)] [] h1 R)))))) : ft_V k_Mo_goesOn 108 [some (.inr (.inr 309)), none, some (.inl x2)] [] h R := by
  refine fv_iload_n (ft_d o_Mo_goesOn 54 rfl) rfl rfl ?_
  refine fv_iconst (ft_d o_Mo_goesOn 55 rfl) rfl rfl ?_
  refine fv_icmp_ge (tgt := 140) (ft_d o_Mo_goesOn 56 rfl) rfl rfl (fun c => ?_) (fun c => ?_)
  · have w := w.1 c
    refine fv_goto (pc' := 291) (ft_d o_Mo_goesOn 70 rfl) rfl ?_
    exact fv_return (ft_d o_Mo_goesOn 148 rfl) rfl w
  · have w := w.2 c
    refine fv_aload_n (ft_d o_Mo_goesOn 57 rfl) rfl rfl ?_
    refine fv_iload_n (ft_d o_Mo_goesOn 58 rfl) rfl rfl ?_
    obtain ⟨R1, c2, w⟩ := w
    refine fv_calli (st := []) (Or.inr rfl) rfl (ft_mm (pre := [.inl x2, .inr (.inr 309)]) rfl) (ft_rnV (K' := k_Mo_isSpelt) (As := [.inl x2]) (ft_d o_Mo_goesOn 59 rfl) ml_Mo_398 li_Mo_isSpelt.1 li_Mo_isSpelt.2 lw_Mo_isSpelt ⟨rfl, rfl, Nat.le_of_ble_eq_true rfl, Nat.le_of_ble_eq_true rfl⟩ sh_309 rfl rfl rfl rfl (Nat.le_of_ble_eq_true rfl) c2) (fun z3 h1 hz hw => ?_)
    have w := w z3 h1 hz hw
    refine fv_if_ne (tgt := 124) (ft_d o_Mo_goesOn 60 rfl) rfl rfl (fun c => ?_) (fun c => ?_)
    · have w := w.1 c
      refine fv_aload_n (ft_d o_Mo_goesOn 62 rfl) rfl rfl ?_
      refine fv_iconst (ft_d o_Mo_goesOn 63 rfl) rfl rfl ?_
      refine fv_putI (ft_d o_Mo_goesOn 64 rfl) rfl fl_Mo_391 rfl rfl sh_309 rfl ?_
      generalize eh2 : ft_hs h1 309 37 1 = h2
      have w := w h2 eh2.symm
      refine fv_aload_n (ft_d o_Mo_goesOn 65 rfl) rfl rfl ?_
      refine fv_iload_n (ft_d o_Mo_goesOn 66 rfl) rfl rfl ?_
      refine fv_putI (ft_d o_Mo_goesOn 67 rfl) rfl fl_Mo_401 rfl rfl sh_309 rfl ?_
      generalize eh3 : ft_hs h2 309 39 x2 = h3
      have w := w h3 eh3.symm
      exact w
    · have w := w.2 c
      refine fv_goto (pc' := 134) (ft_d o_Mo_goesOn 61 rfl) rfl ?_
      exact w
set_option maxRecDepth 20000 in
theorem b_Mo_goesOn_134 {x2 : Int} {h : ftH} {R : Option ftV → ftH → Prop} 
    (w : ft_V k_Mo_goesOn 108 [some (.inr (.inr 309)), none, some (.inl (ft_add x2 1))] [] h R) : ft_V k_Mo_goesOn 134 [some (.inr (.inr 309)), none, some (.inl x2)] [] h R := by
  refine fv_iinc (L' := [some (.inr (.inr 309)), none, some (.inl (ft_add x2 1))]) (ft_d o_Mo_goesOn 68 rfl) rfl rfl (Nat.le_of_ble_eq_true rfl) rfl ?_
  refine fv_goto (pc' := 108) (ft_d o_Mo_goesOn 69 rfl) rfl ?_
  exact w
set_option maxRecDepth 20000 in
theorem b_Mo_goesOn_162  {h : ftH} {R : Option ftV → ftH → Prop} 
    (w : ((0 ≤ h 309 36 ∧ h 309 34 ≤ 2200) ∧ ((¬ ((48 : Int) ≤ (m_here h) ∧ (m_here h) ≤ (57 : Int)) → ((ft_sub (h 309 36) (h 309 38) ≤ 3 → ft_V k_Mo_goesOn 243 [none, none, none] [.inl 2, .inr (.inr 309)] h R) ∧ (¬ (ft_sub (h 309 36) (h 309 38) ≤ 3) → ft_V k_Mo_goesOn 243 [none, none, none] [.inl 4, .inr (.inr 309)] h R))) ∧ ((48 : Int) ≤ (m_here h) ∧ (m_here h) ≤ (57 : Int) → ((3 ≤ ft_sub (h 309 36) (h 309 38) → ft_V k_Mo_goesOn 211 [some (.inr (.inr 309)), none, none] [] h R) ∧ (¬ (3 ≤ ft_sub (h 309 36) (h 309 38)) → ((0 ≤ h 309 36 ∧ h 309 34 ≤ 2200) ∧ (∀ h1 : ftH, h1 = ft_hs h 309 41 (ft_sub (ft_add (ft_mul 10 (h 309 41)) (m_here h)) 48) → ft_V k_Mo_goesOn 211 [some (.inr (.inr 309)), none, none] [] h1 R)))))))) : ft_V k_Mo_goesOn 162 [some (.inr (.inr 309)), none, none] [] h R := by
  refine fv_aload_n (ft_d o_Mo_goesOn 80 rfl) rfl rfl ?_
  refine fv_callif (st := []) (z := m_here h) (Or.inl rfl) rfl (ft_mm (pre := [.inr (.inr 309)]) rfl) (ft_rnV (K' := k_Mo_here) (As := []) (ft_d o_Mo_goesOn 81 rfl) ml_Mo_388 li_Mo_here.1 li_Mo_here.2 lw_Mo_here ⟨rfl, rfl, Nat.le_of_ble_eq_true rfl, Nat.le_of_ble_eq_true rfl⟩ sh_309 rfl rfl rfl rfl (Nat.le_of_ble_eq_true rfl) (c_Mo_here w.1)) ?_
  have w := w.2
  refine fv_i2l (ft_d o_Mo_goesOn 82 rfl) rfl ?_
  refine fv_ldc2 (v := 48) (z := 48) (ft_d o_Mo_goesOn 83 rfl) rfl (ft_gt 1675 (by decide +kernel) rfl) rfl ?_
  refine fv_ldc2 (v := 57) (z := 57) (ft_d o_Mo_goesOn 84 rfl) rfl (ft_gt 1676 (by decide +kernel) rfl) rfl ?_
  refine fv_callif (st := []) (z := (if (48 : Int) ≤ (m_here h) ∧ (m_here h) ≤ (57 : Int) then 1 else 0)) (Or.inr rfl) rfl (ft_mm (pre := [.inr (.inl 57), .inr (.inl 48), .inr (.inl (m_here h))]) rfl) (ft_rnS (K' := k_Mo_in) (As := [.inr (.inl (m_here h)), .inr (.inl 48), .inr (.inl 57)]) (ft_d o_Mo_goesOn 85 rfl) ml_Mo_106 lz_Mo_in rfl lw_Mo_in ⟨rfl, rfl, Nat.le_of_ble_eq_true rfl, Nat.le_of_ble_eq_true rfl⟩ rfl rfl (Nat.le_of_ble_eq_true rfl) (c_Mo_in)) ?_
  refine fv_if_eq (tgt := 224) (ft_d o_Mo_goesOn 86 rfl) rfl rfl (fun c => ?_) (fun c => ?_)
  · have w := w.1 (ft_if0.mp c)
    refine fv_aload_n (ft_d o_Mo_goesOn 112 rfl) rfl rfl ?_
    refine fv_aload_n (ft_d o_Mo_goesOn 113 rfl) rfl rfl ?_
    refine fv_getI (ft_d o_Mo_goesOn 114 rfl) rfl fl_Mo_379 sh_309 rfl ?_
    refine fv_aload_n (ft_d o_Mo_goesOn 115 rfl) rfl rfl ?_
    refine fv_getI (ft_d o_Mo_goesOn 116 rfl) rfl fl_Mo_385 sh_309 rfl ?_
    refine fv_isub (ft_d o_Mo_goesOn 117 rfl) rfl ?_
    refine fv_iconst (ft_d o_Mo_goesOn 118 rfl) rfl rfl ?_
    refine fv_icmp_le (tgt := 242) (ft_d o_Mo_goesOn 119 rfl) rfl rfl (fun c => ?_) (fun c => ?_)
    · have w := w.1 c
      refine fv_iconst (ft_d o_Mo_goesOn 122 rfl) rfl rfl ?_
      refine fv_mask (M := [false, false, false]) rfl ?_
      exact w
    · have w := w.2 c
      refine fv_iconst (ft_d o_Mo_goesOn 120 rfl) rfl rfl ?_
      refine fv_goto (pc' := 243) (ft_d o_Mo_goesOn 121 rfl) rfl ?_
      refine fv_mask (M := [false, false, false]) rfl ?_
      exact w
  · have w := w.2 (ft_if1.mp c)
    refine fv_aload_n (ft_d o_Mo_goesOn 87 rfl) rfl rfl ?_
    refine fv_getI (ft_d o_Mo_goesOn 88 rfl) rfl fl_Mo_379 sh_309 rfl ?_
    refine fv_aload_n (ft_d o_Mo_goesOn 89 rfl) rfl rfl ?_
    refine fv_getI (ft_d o_Mo_goesOn 90 rfl) rfl fl_Mo_385 sh_309 rfl ?_
    refine fv_isub (ft_d o_Mo_goesOn 91 rfl) rfl ?_
    refine fv_iconst (ft_d o_Mo_goesOn 92 rfl) rfl rfl ?_
    refine fv_icmp_ge (tgt := 211) (ft_d o_Mo_goesOn 93 rfl) rfl rfl (fun c => ?_) (fun c => ?_)
    · have w := w.1 c
      exact w
    · have w := w.2 c
      refine fv_aload_n (ft_d o_Mo_goesOn 94 rfl) rfl rfl ?_
      refine fv_bipush (ft_d o_Mo_goesOn 95 rfl) rfl rfl ?_
      refine fv_aload_n (ft_d o_Mo_goesOn 96 rfl) rfl rfl ?_
      refine fv_getI (ft_d o_Mo_goesOn 97 rfl) rfl fl_Mo_408 sh_309 rfl ?_
      refine fv_imul (ft_d o_Mo_goesOn 98 rfl) rfl ?_
      refine fv_aload_n (ft_d o_Mo_goesOn 99 rfl) rfl rfl ?_
      refine fv_callif (st := [.inl (ft_mul 10 (h 309 41)), .inr (.inr 309)]) (z := m_here h) (Or.inl rfl) rfl (ft_mm (pre := [.inr (.inr 309)]) rfl) (ft_rnV (K' := k_Mo_here) (As := []) (ft_d o_Mo_goesOn 100 rfl) ml_Mo_388 li_Mo_here.1 li_Mo_here.2 lw_Mo_here ⟨rfl, rfl, Nat.le_of_ble_eq_true rfl, Nat.le_of_ble_eq_true rfl⟩ sh_309 rfl rfl rfl rfl (Nat.le_of_ble_eq_true rfl) (c_Mo_here w.1)) ?_
      have w := w.2
      refine fv_iadd (ft_d o_Mo_goesOn 101 rfl) rfl ?_
      refine fv_bipush (ft_d o_Mo_goesOn 102 rfl) rfl rfl ?_
      refine fv_isub (ft_d o_Mo_goesOn 103 rfl) rfl ?_
      refine fv_putI (ft_d o_Mo_goesOn 104 rfl) rfl fl_Mo_408 rfl rfl sh_309 rfl ?_
      generalize eh1 : ft_hs h 309 41 (ft_sub (ft_add (ft_mul 10 (h 309 41)) (m_here h)) 48) = h1
      have w := w h1 eh1.symm
      exact w
set_option maxRecDepth 20000 in
theorem b_Mo_goesOn_211  {h : ftH} {R : Option ftV → ftH → Prop} 
    (w : (∀ h1 : ftH, h1 = ft_hs h 309 36 (ft_add (h 309 36) 1) → ft_V k_Mo_goesOn 162 [some (.inr (.inr 309)), none, none] [] h1 R)) : ft_V k_Mo_goesOn 211 [some (.inr (.inr 309)), none, none] [] h R := by
  refine fv_aload_n (ft_d o_Mo_goesOn 105 rfl) rfl rfl ?_
  refine fv_dup (ft_d o_Mo_goesOn 106 rfl) rfl rfl ?_
  refine fv_getI (ft_d o_Mo_goesOn 107 rfl) rfl fl_Mo_379 sh_309 rfl ?_
  refine fv_iconst (ft_d o_Mo_goesOn 108 rfl) rfl rfl ?_
  refine fv_iadd (ft_d o_Mo_goesOn 109 rfl) rfl ?_
  refine fv_putI (ft_d o_Mo_goesOn 110 rfl) rfl fl_Mo_379 rfl rfl sh_309 rfl ?_
  generalize eh1 : ft_hs h 309 36 (ft_add (h 309 36) 1) = h1
  have w := w h1 eh1.symm
  refine fv_goto (pc' := 162) (ft_d o_Mo_goesOn 111 rfl) rfl ?_
  exact w
set_option maxRecDepth 20000 in
theorem b_Mo_goesOn_243 {y1 : Int} {h : ftH} {R : Option ftV → ftH → Prop} 
    (w : (∀ h1 : ftH, h1 = ft_hs h 309 37 y1 → R none h1)) : ft_V k_Mo_goesOn 243 [none, none, none] [.inl y1, .inr (.inr 309)] h R := by
  refine fv_putI (ft_d o_Mo_goesOn 123 rfl) rfl fl_Mo_391 rfl rfl sh_309 rfl ?_
  generalize eh1 : ft_hs h 309 37 y1 = h1
  have w := w h1 eh1.symm
  refine fv_goto (pc' := 291) (ft_d o_Mo_goesOn 124 rfl) rfl ?_
  exact fv_return (ft_d o_Mo_goesOn 148 rfl) rfl w
set_option maxRecDepth 20000 in
theorem b_Mo_goesOn_283  {h : ftH} {R : Option ftV → ftH → Prop} 
    (w : (∀ h1 : ftH, h1 = ft_hs h 309 37 3 → R none h1)) : ft_V k_Mo_goesOn 283 [none, none, none] [.inr (.inr 309)] h R := by
  refine fv_iconst (ft_d o_Mo_goesOn 144 rfl) rfl rfl ?_
  refine fv_goto (pc' := 288) (ft_d o_Mo_goesOn 145 rfl) rfl ?_
  refine fv_putI (ft_d o_Mo_goesOn 147 rfl) rfl fl_Mo_391 rfl rfl sh_309 rfl ?_
  generalize eh1 : ft_hs h 309 37 3 = h1
  have w := w h1 eh1.symm
  exact fv_return (ft_d o_Mo_goesOn 148 rfl) rfl w
set_option maxRecDepth 20000 in
theorem b_Mo_fails_0  {h : ftH} {R : Option ftV → ftH → Prop} 
    (w : ((h 309 43 = 0 → (∀ h1 : ftH, h1 = ft_hs h 309 43 1 → (∀ h2 : ftH, h2 = ft_hs h1 309 42 (h1 309 38) → R none h2))) ∧ (¬ (h 309 43 = 0) → R none h))) : ft_V k_Mo_fails 0 [some (.inr (.inr 309))] [] h R := by
  refine fv_aload_n (ft_d o_Mo_fails 0 rfl) rfl rfl ?_
  refine fv_getI (ft_d o_Mo_fails 1 rfl) rfl fl_Mo_414 sh_309 rfl ?_
  refine fv_if_eq (tgt := 8) (ft_d o_Mo_fails 2 rfl) rfl rfl (fun c => ?_) (fun c => ?_)
  · have w := w.1 c
    refine fv_aload_n (ft_d o_Mo_fails 4 rfl) rfl rfl ?_
    refine fv_iconst (ft_d o_Mo_fails 5 rfl) rfl rfl ?_
    refine fv_putZ (ft_d o_Mo_fails 6 rfl) rfl fl_Mo_414 rfl rfl sh_309 rfl (Or.inr rfl) ?_
    generalize eh1 : ft_hs h 309 43 1 = h1
    have w := w h1 eh1.symm
    refine fv_aload_n (ft_d o_Mo_fails 7 rfl) rfl rfl ?_
    refine fv_aload_n (ft_d o_Mo_fails 8 rfl) rfl rfl ?_
    refine fv_getI (ft_d o_Mo_fails 9 rfl) rfl fl_Mo_385 sh_309 rfl ?_
    refine fv_putI (ft_d o_Mo_fails 10 rfl) rfl fl_Mo_81 rfl rfl sh_309 rfl ?_
    generalize eh2 : ft_hs h1 309 42 (h1 309 38) = h2
    have w := w h2 eh2.symm
    exact fv_return (ft_d o_Mo_fails 11 rfl) rfl w
  · have w := w.2 c
    exact fv_return (ft_d o_Mo_fails 3 rfl) rfl w
set_option maxRecDepth 20000 in
theorem b_Mo_needsWord_0 {x1 : Int} {h : ftH} {R : Option ftV → ftH → Prop} 
    (w : ((¬ (h 309 43 = 0 ∧ h 309 37 = 1 ∧ h 309 39 = x1) → (∃ R3 : Option ftV → ftH → Prop, ft_C k_Mo_fails [.inr (.inr 309)] h R3 ∧ ∀ h1 : ftH, R3 none h1 → R none h1)) ∧ (h 309 43 = 0 ∧ h 309 37 = 1 ∧ h 309 39 = x1 → (∃ R5 : Option ftV → ftH → Prop, ft_C k_Mo_goesOn [.inr (.inr 309)] h R5 ∧ ∀ h2 : ftH, R5 none h2 → R none h2)))) : ft_V k_Mo_needsWord 0 [some (.inr (.inr 309)), some (.inl x1)] [] h R := by
  refine fv_aload_n (ft_d o_Mo_needsWord 0 rfl) rfl rfl ?_
  refine fv_iload_n (ft_d o_Mo_needsWord 1 rfl) rfl rfl ?_
  refine fv_callif (st := []) (z := (if h 309 43 = 0 ∧ h 309 37 = 1 ∧ h 309 39 = x1 then 1 else 0)) (Or.inr rfl) rfl (ft_mm (pre := [.inl x1, .inr (.inr 309)]) rfl) (ft_rnV (K' := k_Mo_isWord) (As := [.inl x1]) (ft_d o_Mo_needsWord 2 rfl) ml_Mo_417 li_Mo_isWord.1 li_Mo_isWord.2 lw_Mo_isWord ⟨rfl, rfl, Nat.le_of_ble_eq_true rfl, Nat.le_of_ble_eq_true rfl⟩ sh_309 rfl rfl rfl rfl (Nat.le_of_ble_eq_true rfl) (c_Mo_isWord)) ?_
  refine fv_if_eq (tgt := 15) (ft_d o_Mo_needsWord 3 rfl) rfl rfl (fun c => ?_) (fun c => ?_)
  · have w := w.1 (ft_if0.mp c)
    refine fv_aload_n (ft_d o_Mo_needsWord 7 rfl) rfl rfl ?_
    obtain ⟨R3, c4, w⟩ := w
    refine fv_callv (st := []) rfl rfl (ft_mm (pre := [.inr (.inr 309)]) rfl) (ft_rnV (K' := k_Mo_fails) (As := []) (ft_d o_Mo_needsWord 8 rfl) ml_Mo_423 li_Mo_fails.1 li_Mo_fails.2 lw_Mo_fails ⟨rfl, rfl, Nat.le_of_ble_eq_true rfl, Nat.le_of_ble_eq_true rfl⟩ sh_309 rfl rfl rfl rfl (Nat.le_of_ble_eq_true rfl) c4) (fun h1 hw => ?_)
    have w := w h1 hw
    exact fv_return (ft_d o_Mo_needsWord 9 rfl) rfl w
  · have w := w.2 (ft_if1.mp c)
    refine fv_aload_n (ft_d o_Mo_needsWord 4 rfl) rfl rfl ?_
    obtain ⟨R5, c6, w⟩ := w
    refine fv_callv (st := []) rfl rfl (ft_mm (pre := [.inr (.inr 309)]) rfl) (ft_rnV (K' := k_Mo_goesOn) (As := []) (ft_d o_Mo_needsWord 5 rfl) ml_Mo_420 li_Mo_goesOn.1 li_Mo_goesOn.2 lw_Mo_goesOn ⟨rfl, rfl, Nat.le_of_ble_eq_true rfl, Nat.le_of_ble_eq_true rfl⟩ sh_309 rfl rfl rfl rfl (Nat.le_of_ble_eq_true rfl) c6) (fun h2 hw => ?_)
    have w := w h2 hw
    refine fv_goto (pc' := 19) (ft_d o_Mo_needsWord 6 rfl) rfl ?_
    exact fv_return (ft_d o_Mo_needsWord 9 rfl) rfl w
set_option maxRecDepth 20000 in
theorem b_Mo_needsSign_0 {x1 : Int} {h : ftH} {R : Option ftV → ftH → Prop} 
    (w : ((¬ (h 309 43 = 0) → (∃ R1 : Option ftV → ftH → Prop, ft_C k_Mo_fails [.inr (.inr 309)] h R1 ∧ ∀ h1 : ftH, R1 none h1 → R none h1)) ∧ (h 309 43 = 0 → ((¬ (h 309 37 = 3) → (∃ R3 : Option ftV → ftH → Prop, ft_C k_Mo_fails [.inr (.inr 309)] h R3 ∧ ∀ h2 : ftH, R3 none h2 → R none h2)) ∧ (h 309 37 = 3 → ((¬ (h 309 40 = x1) → (∃ R5 : Option ftV → ftH → Prop, ft_C k_Mo_fails [.inr (.inr 309)] h R5 ∧ ∀ h3 : ftH, R5 none h3 → R none h3)) ∧ (h 309 40 = x1 → (∃ R7 : Option ftV → ftH → Prop, ft_C k_Mo_goesOn [.inr (.inr 309)] h R7 ∧ ∀ h4 : ftH, R7 none h4 → R none h4)))))))) : ft_V k_Mo_needsSign 0 [some (.inr (.inr 309)), some (.inl x1)] [] h R := by
  refine fv_aload_n (ft_d o_Mo_needsSign 0 rfl) rfl rfl ?_
  refine fv_getI (ft_d o_Mo_needsSign 1 rfl) rfl fl_Mo_414 sh_309 rfl ?_
  refine fv_if_ne (tgt := 30) (ft_d o_Mo_needsSign 2 rfl) rfl rfl (fun c => ?_) (fun c => ?_)
  · have w := w.1 c
    refine fv_aload_n (ft_d o_Mo_needsSign 14 rfl) rfl rfl ?_
    obtain ⟨R1, c2, w⟩ := w
    refine fv_callv (st := []) rfl rfl (ft_mm (pre := [.inr (.inr 309)]) rfl) (ft_rnV (K' := k_Mo_fails) (As := []) (ft_d o_Mo_needsSign 15 rfl) ml_Mo_423 li_Mo_fails.1 li_Mo_fails.2 lw_Mo_fails ⟨rfl, rfl, Nat.le_of_ble_eq_true rfl, Nat.le_of_ble_eq_true rfl⟩ sh_309 rfl rfl rfl rfl (Nat.le_of_ble_eq_true rfl) c2) (fun h1 hw => ?_)
    have w := w h1 hw
    exact fv_return (ft_d o_Mo_needsSign 16 rfl) rfl w
  · have w := w.2 c
    refine fv_aload_n (ft_d o_Mo_needsSign 3 rfl) rfl rfl ?_
    refine fv_getI (ft_d o_Mo_needsSign 4 rfl) rfl fl_Mo_391 sh_309 rfl ?_
    refine fv_iconst (ft_d o_Mo_needsSign 5 rfl) rfl rfl ?_
    refine fv_icmp_ne (tgt := 30) (ft_d o_Mo_needsSign 6 rfl) rfl rfl (fun c => ?_) (fun c => ?_)
    · have w := w.1 c
      refine fv_aload_n (ft_d o_Mo_needsSign 14 rfl) rfl rfl ?_
      obtain ⟨R3, c4, w⟩ := w
      refine fv_callv (st := []) rfl rfl (ft_mm (pre := [.inr (.inr 309)]) rfl) (ft_rnV (K' := k_Mo_fails) (As := []) (ft_d o_Mo_needsSign 15 rfl) ml_Mo_423 li_Mo_fails.1 li_Mo_fails.2 lw_Mo_fails ⟨rfl, rfl, Nat.le_of_ble_eq_true rfl, Nat.le_of_ble_eq_true rfl⟩ sh_309 rfl rfl rfl rfl (Nat.le_of_ble_eq_true rfl) c4) (fun h2 hw => ?_)
      have w := w h2 hw
      exact fv_return (ft_d o_Mo_needsSign 16 rfl) rfl w
    · have w := w.2 c
      refine fv_aload_n (ft_d o_Mo_needsSign 7 rfl) rfl rfl ?_
      refine fv_getI (ft_d o_Mo_needsSign 8 rfl) rfl fl_Mo_411 sh_309 rfl ?_
      refine fv_iload_n (ft_d o_Mo_needsSign 9 rfl) rfl rfl ?_
      refine fv_icmp_ne (tgt := 30) (ft_d o_Mo_needsSign 10 rfl) rfl rfl (fun c => ?_) (fun c => ?_)
      · have w := w.1 c
        refine fv_aload_n (ft_d o_Mo_needsSign 14 rfl) rfl rfl ?_
        obtain ⟨R5, c6, w⟩ := w
        refine fv_callv (st := []) rfl rfl (ft_mm (pre := [.inr (.inr 309)]) rfl) (ft_rnV (K' := k_Mo_fails) (As := []) (ft_d o_Mo_needsSign 15 rfl) ml_Mo_423 li_Mo_fails.1 li_Mo_fails.2 lw_Mo_fails ⟨rfl, rfl, Nat.le_of_ble_eq_true rfl, Nat.le_of_ble_eq_true rfl⟩ sh_309 rfl rfl rfl rfl (Nat.le_of_ble_eq_true rfl) c6) (fun h3 hw => ?_)
        have w := w h3 hw
        exact fv_return (ft_d o_Mo_needsSign 16 rfl) rfl w
      · have w := w.2 c
        refine fv_aload_n (ft_d o_Mo_needsSign 11 rfl) rfl rfl ?_
        obtain ⟨R7, c8, w⟩ := w
        refine fv_callv (st := []) rfl rfl (ft_mm (pre := [.inr (.inr 309)]) rfl) (ft_rnV (K' := k_Mo_goesOn) (As := []) (ft_d o_Mo_needsSign 12 rfl) ml_Mo_420 li_Mo_goesOn.1 li_Mo_goesOn.2 lw_Mo_goesOn ⟨rfl, rfl, Nat.le_of_ble_eq_true rfl, Nat.le_of_ble_eq_true rfl⟩ sh_309 rfl rfl rfl rfl (Nat.le_of_ble_eq_true rfl) c8) (fun h4 hw => ?_)
        have w := w h4 hw
        refine fv_goto (pc' := 34) (ft_d o_Mo_needsSign 13 rfl) rfl ?_
        exact fv_return (ft_d o_Mo_needsSign 16 rfl) rfl w
set_option maxRecDepth 20000 in
theorem b_Mo_needsNumber_0 {x1 : Int} {x2 : Int} {h : ftH} {R : Option ftV → ftH → Prop} 
    (w : ((¬ (h 309 43 = 0) → (∃ R1 : Option ftV → ftH → Prop, ft_C k_Mo_fails [.inr (.inr 309)] h R1 ∧ ∀ h1 : ftH, R1 none h1 → R (some (.inl x1)) h1)) ∧ (h 309 43 = 0 → ((¬ (h 309 37 = 2) → (∃ R3 : Option ftV → ftH → Prop, ft_C k_Mo_fails [.inr (.inr 309)] h R3 ∧ ∀ h2 : ftH, R3 none h2 → R (some (.inl x1)) h2)) ∧ (h 309 37 = 2 → ((x1 ≤ (h 309 41) ∧ (h 309 41) ≤ x2 → (∀ n7 : Int, n7 = h 309 41 → (∃ R8 : Option ftV → ftH → Prop, ft_C k_Mo_goesOn [.inr (.inr 309)] h R8 ∧ ∀ h3 : ftH, R8 none h3 → R (some (.inl n7)) h3))) ∧ (¬ (x1 ≤ (h 309 41) ∧ (h 309 41) ≤ x2) → (∃ R10 : Option ftV → ftH → Prop, ft_C k_Mo_fails [.inr (.inr 309)] h R10 ∧ ∀ h4 : ftH, R10 none h4 → R (some (.inl x1)) h4)))))))) : ft_V k_Mo_needsNumber 0 [some (.inr (.inr 309)), some (.inl x1), some (.inl x2), none] [] h R := by
  refine fv_aload_n (ft_d o_Mo_needsNumber 0 rfl) rfl rfl ?_
  refine fv_getI (ft_d o_Mo_needsNumber 1 rfl) rfl fl_Mo_414 sh_309 rfl ?_
  refine fv_if_ne (tgt := 30) (ft_d o_Mo_needsNumber 2 rfl) rfl rfl (fun c => ?_) (fun c => ?_)
  · have w := w.1 c
    refine fv_aload_n (ft_d o_Mo_needsNumber 16 rfl) rfl rfl ?_
    obtain ⟨R1, c2, w⟩ := w
    refine fv_callv (st := []) rfl rfl (ft_mm (pre := [.inr (.inr 309)]) rfl) (ft_rnV (K' := k_Mo_fails) (As := []) (ft_d o_Mo_needsNumber 17 rfl) ml_Mo_423 li_Mo_fails.1 li_Mo_fails.2 lw_Mo_fails ⟨rfl, rfl, Nat.le_of_ble_eq_true rfl, Nat.le_of_ble_eq_true rfl⟩ sh_309 rfl rfl rfl rfl (Nat.le_of_ble_eq_true rfl) c2) (fun h1 hw => ?_)
    have w := w h1 hw
    refine fv_iload_n (ft_d o_Mo_needsNumber 18 rfl) rfl rfl ?_
    exact fv_ireturn (ft_d o_Mo_needsNumber 19 rfl) rfl w
  · have w := w.2 c
    refine fv_aload_n (ft_d o_Mo_needsNumber 3 rfl) rfl rfl ?_
    refine fv_getI (ft_d o_Mo_needsNumber 4 rfl) rfl fl_Mo_391 sh_309 rfl ?_
    refine fv_iconst (ft_d o_Mo_needsNumber 5 rfl) rfl rfl ?_
    refine fv_icmp_ne (tgt := 30) (ft_d o_Mo_needsNumber 6 rfl) rfl rfl (fun c => ?_) (fun c => ?_)
    · have w := w.1 c
      refine fv_aload_n (ft_d o_Mo_needsNumber 16 rfl) rfl rfl ?_
      obtain ⟨R3, c4, w⟩ := w
      refine fv_callv (st := []) rfl rfl (ft_mm (pre := [.inr (.inr 309)]) rfl) (ft_rnV (K' := k_Mo_fails) (As := []) (ft_d o_Mo_needsNumber 17 rfl) ml_Mo_423 li_Mo_fails.1 li_Mo_fails.2 lw_Mo_fails ⟨rfl, rfl, Nat.le_of_ble_eq_true rfl, Nat.le_of_ble_eq_true rfl⟩ sh_309 rfl rfl rfl rfl (Nat.le_of_ble_eq_true rfl) c4) (fun h2 hw => ?_)
      have w := w h2 hw
      refine fv_iload_n (ft_d o_Mo_needsNumber 18 rfl) rfl rfl ?_
      exact fv_ireturn (ft_d o_Mo_needsNumber 19 rfl) rfl w
    · have w := w.2 c
      refine fv_aload_n (ft_d o_Mo_needsNumber 7 rfl) rfl rfl ?_
      refine fv_getI (ft_d o_Mo_needsNumber 8 rfl) rfl fl_Mo_408 sh_309 rfl ?_
      refine fv_i2l (ft_d o_Mo_needsNumber 9 rfl) rfl ?_
      refine fv_iload_n (ft_d o_Mo_needsNumber 10 rfl) rfl rfl ?_
      refine fv_i2l (ft_d o_Mo_needsNumber 11 rfl) rfl ?_
      refine fv_iload_n (ft_d o_Mo_needsNumber 12 rfl) rfl rfl ?_
      refine fv_i2l (ft_d o_Mo_needsNumber 13 rfl) rfl ?_
      refine fv_callif (st := []) (z := (if x1 ≤ (h 309 41) ∧ (h 309 41) ≤ x2 then 1 else 0)) (Or.inr rfl) rfl (ft_mm (pre := [.inr (.inl x2), .inr (.inl x1), .inr (.inl (h 309 41))]) rfl) (ft_rnS (K' := k_Mo_in) (As := [.inr (.inl (h 309 41)), .inr (.inl x1), .inr (.inl x2)]) (ft_d o_Mo_needsNumber 14 rfl) ml_Mo_106 lz_Mo_in rfl lw_Mo_in ⟨rfl, rfl, Nat.le_of_ble_eq_true rfl, Nat.le_of_ble_eq_true rfl⟩ rfl rfl (Nat.le_of_ble_eq_true rfl) (c_Mo_in)) ?_
      refine fv_if_ne (tgt := 36) (ft_d o_Mo_needsNumber 15 rfl) rfl rfl (fun c => ?_) (fun c => ?_)
      · have w := w.1 (ft_if1.mp c)
        refine fv_aload_n (ft_d o_Mo_needsNumber 20 rfl) rfl rfl ?_
        refine fv_getI (ft_d o_Mo_needsNumber 21 rfl) rfl fl_Mo_408 sh_309 rfl ?_
        generalize en7 : h 309 41 = n7
        have w := w n7 en7.symm
        refine fv_istore_n (L' := [some (.inr (.inr 309)), some (.inl x1), some (.inl x2), some (.inl n7)]) (ft_d o_Mo_needsNumber 22 rfl) rfl (Nat.le_of_ble_eq_true rfl) rfl ?_
        refine fv_aload_n (ft_d o_Mo_needsNumber 23 rfl) rfl rfl ?_
        obtain ⟨R8, c9, w⟩ := w
        refine fv_callv (st := []) rfl rfl (ft_mm (pre := [.inr (.inr 309)]) rfl) (ft_rnV (K' := k_Mo_goesOn) (As := []) (ft_d o_Mo_needsNumber 24 rfl) ml_Mo_420 li_Mo_goesOn.1 li_Mo_goesOn.2 lw_Mo_goesOn ⟨rfl, rfl, Nat.le_of_ble_eq_true rfl, Nat.le_of_ble_eq_true rfl⟩ sh_309 rfl rfl rfl rfl (Nat.le_of_ble_eq_true rfl) c9) (fun h3 hw => ?_)
        have w := w h3 hw
        refine fv_iload_n (ft_d o_Mo_needsNumber 25 rfl) rfl rfl ?_
        exact fv_ireturn (ft_d o_Mo_needsNumber 26 rfl) rfl w
      · have w := w.2 (ft_if0.mp c)
        refine fv_aload_n (ft_d o_Mo_needsNumber 16 rfl) rfl rfl ?_
        obtain ⟨R10, c11, w⟩ := w
        refine fv_callv (st := []) rfl rfl (ft_mm (pre := [.inr (.inr 309)]) rfl) (ft_rnV (K' := k_Mo_fails) (As := []) (ft_d o_Mo_needsNumber 17 rfl) ml_Mo_423 li_Mo_fails.1 li_Mo_fails.2 lw_Mo_fails ⟨rfl, rfl, Nat.le_of_ble_eq_true rfl, Nat.le_of_ble_eq_true rfl⟩ sh_309 rfl rfl rfl rfl (Nat.le_of_ble_eq_true rfl) c11) (fun h4 hw => ?_)
        have w := w h4 hw
        refine fv_iload_n (ft_d o_Mo_needsNumber 18 rfl) rfl rfl ?_
        exact fv_ireturn (ft_d o_Mo_needsNumber 19 rfl) rfl w
set_option maxRecDepth 20000 in
theorem b_Mo_readsBytes_0 {x1 : Int} {h : ftH} {R : Option ftV → ftH → Prop} 
    (w : ft_V k_Mo_readsBytes 4 [some (.inr (.inr 309)), some (.inl x1), some (.inl 0), some (.inl 0)] [] h R) : ft_V k_Mo_readsBytes 0 [some (.inr (.inr 309)), some (.inl x1), none, none] [] h R := by
  refine fv_iconst (ft_d o_Mo_readsBytes 0 rfl) rfl rfl ?_
  refine fv_istore_n (L' := [some (.inr (.inr 309)), some (.inl x1), some (.inl 0), none]) (ft_d o_Mo_readsBytes 1 rfl) rfl (Nat.le_of_ble_eq_true rfl) rfl ?_
  refine fv_iconst (ft_d o_Mo_readsBytes 2 rfl) rfl rfl ?_
  refine fv_istore_n (L' := [some (.inr (.inr 309)), some (.inl x1), some (.inl 0), some (.inl 0)]) (ft_d o_Mo_readsBytes 3 rfl) rfl (Nat.le_of_ble_eq_true rfl) rfl ?_
  exact w
set_option maxRecDepth 20000 in
theorem b_Mo_readsBytes_4 {x1 : Int} {x2 : Int} {x3 : Int} {h : ftH} {R : Option ftV → ftH → Prop} 
    (w : ((x1 ≤ x3 → R (some (.inl x2)) h) ∧ (¬ (x1 ≤ x3) → (∃ R1 : Option ftV → ftH → Prop, ft_C k_Mo_needsNumber [.inr (.inr 309), .inl 0, .inl 255] h R1 ∧ ∀ (z3 : Int) (h1 : ftH), ft_in z3 → R1 (some (.inl z3)) h1 → (∀ n4 : Int, n4 = ft_or (ft_shl x2 8) z3 → (∃ R5 : Option ftV → ftH → Prop, ft_C k_Mo_needsSign [.inr (.inr 309), .inl 46] h1 R5 ∧ ∀ h2 : ftH, R5 none h2 → ft_V k_Mo_readsBytes 4 [some (.inr (.inr 309)), some (.inl x1), some (.inl n4), some (.inl (ft_add x3 1))] [] h2 R)))))) : ft_V k_Mo_readsBytes 4 [some (.inr (.inr 309)), some (.inl x1), some (.inl x2), some (.inl x3)] [] h R := by
  refine fv_iload_n (ft_d o_Mo_readsBytes 4 rfl) rfl rfl ?_
  refine fv_iload_n (ft_d o_Mo_readsBytes 5 rfl) rfl rfl ?_
  refine fv_icmp_ge (tgt := 35) (ft_d o_Mo_readsBytes 6 rfl) rfl rfl (fun c => ?_) (fun c => ?_)
  · have w := w.1 c
    refine fv_iload_n (ft_d o_Mo_readsBytes 21 rfl) rfl rfl ?_
    exact fv_ireturn (ft_d o_Mo_readsBytes 22 rfl) rfl w
  · have w := w.2 c
    refine fv_iload_n (ft_d o_Mo_readsBytes 7 rfl) rfl rfl ?_
    refine fv_bipush (ft_d o_Mo_readsBytes 8 rfl) rfl rfl ?_
    refine fv_ishl (ft_d o_Mo_readsBytes 9 rfl) rfl ?_
    refine fv_aload_n (ft_d o_Mo_readsBytes 10 rfl) rfl rfl ?_
    refine fv_iconst (ft_d o_Mo_readsBytes 11 rfl) rfl rfl ?_
    refine fv_sipush (ft_d o_Mo_readsBytes 12 rfl) rfl rfl ?_
    obtain ⟨R1, c2, w⟩ := w
    refine fv_calli (st := [.inl (ft_shl x2 8)]) (Or.inl rfl) rfl (ft_mm (pre := [.inl 255, .inl 0, .inr (.inr 309)]) rfl) (ft_rnV (K' := k_Mo_needsNumber) (As := [.inl 0, .inl 255]) (ft_d o_Mo_readsBytes 13 rfl) ml_Mo_426 li_Mo_needsNumber.1 li_Mo_needsNumber.2 lw_Mo_needsNumber ⟨rfl, rfl, Nat.le_of_ble_eq_true rfl, Nat.le_of_ble_eq_true rfl⟩ sh_309 rfl rfl rfl rfl (Nat.le_of_ble_eq_true rfl) c2) (fun z3 h1 hz hw => ?_)
    have w := w z3 h1 hz hw
    refine fv_ior (ft_d o_Mo_readsBytes 14 rfl) rfl ?_
    generalize en4 : ft_or (ft_shl x2 8) z3 = n4
    have w := w n4 en4.symm
    refine fv_istore_n (L' := [some (.inr (.inr 309)), some (.inl x1), some (.inl n4), some (.inl x3)]) (ft_d o_Mo_readsBytes 15 rfl) rfl (Nat.le_of_ble_eq_true rfl) rfl ?_
    refine fv_aload_n (ft_d o_Mo_readsBytes 16 rfl) rfl rfl ?_
    refine fv_bipush (ft_d o_Mo_readsBytes 17 rfl) rfl rfl ?_
    obtain ⟨R5, c6, w⟩ := w
    refine fv_callv (st := []) rfl rfl (ft_mm (pre := [.inl 46, .inr (.inr 309)]) rfl) (ft_rnV (K' := k_Mo_needsSign) (As := [.inl 46]) (ft_d o_Mo_readsBytes 18 rfl) ml_Mo_429 li_Mo_needsSign.1 li_Mo_needsSign.2 lw_Mo_needsSign ⟨rfl, rfl, Nat.le_of_ble_eq_true rfl, Nat.le_of_ble_eq_true rfl⟩ sh_309 rfl rfl rfl rfl (Nat.le_of_ble_eq_true rfl) c6) (fun h2 hw => ?_)
    have w := w h2 hw
    refine fv_iinc (L' := [some (.inr (.inr 309)), some (.inl x1), some (.inl n4), some (.inl (ft_add x3 1))]) (ft_d o_Mo_readsBytes 19 rfl) rfl rfl (Nat.le_of_ble_eq_true rfl) rfl ?_
    refine fv_goto (pc' := 4) (ft_d o_Mo_readsBytes 20 rfl) rfl ?_
    exact w
set_option maxRecDepth 20000 in
theorem b_Mo_isTold_0 {x1 : Int} {x2 : Int} {h : ftH} {R : Option ftV → ftH → Prop} 
    (w : ft_V k_Mo_isTold 2 [some (.inr (.inr 309)), some (.inl x1), some (.inl x2), some (.inl 0)] [] h R) : ft_V k_Mo_isTold 0 [some (.inr (.inr 309)), some (.inl x1), some (.inl x2), none] [] h R := by
  refine fv_iconst (ft_d o_Mo_isTold 0 rfl) rfl rfl ?_
  refine fv_istore_n (L' := [some (.inr (.inr 309)), some (.inl x1), some (.inl x2), some (.inl 0)]) (ft_d o_Mo_isTold 1 rfl) rfl (Nat.le_of_ble_eq_true rfl) rfl ?_
  exact w
set_option maxRecDepth 20000 in
theorem b_Mo_isTold_2 {x1 : Int} {x2 : Int} {x3 : Int} {h : ftH} {R : Option ftV → ftH → Prop} 
    (w : ((h 332 0 ≤ x3 → R (some (.inl 0)) h) ∧ (¬ (h 332 0 ≤ x3) → ((0 ≤ ft_add 10 (ft_mul 3 x3) ∧ ft_add 10 (ft_mul 3 x3) < 520) ∧ ((¬ (h 332 (ft_add 10 (ft_mul 3 x3)).toNat = x1) → ft_V k_Mo_isTold 2 [some (.inr (.inr 309)), some (.inl x1), some (.inl x2), some (.inl (ft_add x3 1))] [] h R) ∧ (h 332 (ft_add 10 (ft_mul 3 x3)).toNat = x1 → ((0 ≤ ft_add (ft_add 10 (ft_mul 3 x3)) 1 ∧ ft_add (ft_add 10 (ft_mul 3 x3)) 1 < 520) ∧ ((¬ (h 332 (ft_add (ft_add 10 (ft_mul 3 x3)) 1).toNat = x2) → ft_V k_Mo_isTold 2 [some (.inr (.inr 309)), some (.inl x1), some (.inl x2), some (.inl (ft_add x3 1))] [] h R) ∧ (h 332 (ft_add (ft_add 10 (ft_mul 3 x3)) 1).toNat = x2 → R (some (.inl 1)) h))))))))) : ft_V k_Mo_isTold 2 [some (.inr (.inr 309)), some (.inl x1), some (.inl x2), some (.inl x3)] [] h R := by
  refine fv_iload_n (ft_d o_Mo_isTold 2 rfl) rfl rfl ?_
  refine fv_aload_n (ft_d o_Mo_isTold 3 rfl) rfl rfl ?_
  refine fv_getR (b := 332) (ft_d o_Mo_isTold 4 rfl) rfl fl_Mo_84 sh_309 rfl ly_309_44 ?_
  refine fv_iconst (ft_d o_Mo_isTold 5 rfl) rfl rfl ?_
  refine fv_ialdj (j := 0) (ft_d o_Mo_isTold 6 rfl) rfl sh_332 ⟨by decide, by decide⟩ rfl ?_
  refine fv_icmp_ge (tgt := 52) (ft_d o_Mo_isTold 7 rfl) rfl rfl (fun c => ?_) (fun c => ?_)
  · have w := w.1 c
    refine fv_iconst (ft_d o_Mo_isTold 34 rfl) rfl rfl ?_
    exact fv_zreturn (ft_d o_Mo_isTold 35 rfl) rfl (Or.inl rfl) w
  · have w := w.2 c
    refine fv_aload_n (ft_d o_Mo_isTold 8 rfl) rfl rfl ?_
    refine fv_getR (b := 332) (ft_d o_Mo_isTold 9 rfl) rfl fl_Mo_84 sh_309 rfl ly_309_44 ?_
    refine fv_bipush (ft_d o_Mo_isTold 10 rfl) rfl rfl ?_
    refine fv_iconst (ft_d o_Mo_isTold 11 rfl) rfl rfl ?_
    refine fv_iload_n (ft_d o_Mo_isTold 12 rfl) rfl rfl ?_
    refine fv_imul (ft_d o_Mo_isTold 13 rfl) rfl ?_
    refine fv_iadd (ft_d o_Mo_isTold 14 rfl) rfl ?_
    refine fv_iald (ft_d o_Mo_isTold 15 rfl) rfl sh_332 w.1 ?_
    have w := w.2
    refine fv_iload_n (ft_d o_Mo_isTold 16 rfl) rfl rfl ?_
    refine fv_icmp_ne (tgt := 46) (ft_d o_Mo_isTold 17 rfl) rfl rfl (fun c => ?_) (fun c => ?_)
    · have w := w.1 c
      refine fv_iinc (L' := [some (.inr (.inr 309)), some (.inl x1), some (.inl x2), some (.inl (ft_add x3 1))]) (ft_d o_Mo_isTold 32 rfl) rfl rfl (Nat.le_of_ble_eq_true rfl) rfl ?_
      refine fv_goto (pc' := 2) (ft_d o_Mo_isTold 33 rfl) rfl ?_
      exact w
    · have w := w.2 c
      refine fv_aload_n (ft_d o_Mo_isTold 18 rfl) rfl rfl ?_
      refine fv_getR (b := 332) (ft_d o_Mo_isTold 19 rfl) rfl fl_Mo_84 sh_309 rfl ly_309_44 ?_
      refine fv_bipush (ft_d o_Mo_isTold 20 rfl) rfl rfl ?_
      refine fv_iconst (ft_d o_Mo_isTold 21 rfl) rfl rfl ?_
      refine fv_iload_n (ft_d o_Mo_isTold 22 rfl) rfl rfl ?_
      refine fv_imul (ft_d o_Mo_isTold 23 rfl) rfl ?_
      refine fv_iadd (ft_d o_Mo_isTold 24 rfl) rfl ?_
      refine fv_iconst (ft_d o_Mo_isTold 25 rfl) rfl rfl ?_
      refine fv_iadd (ft_d o_Mo_isTold 26 rfl) rfl ?_
      refine fv_iald (ft_d o_Mo_isTold 27 rfl) rfl sh_332 w.1 ?_
      have w := w.2
      refine fv_iload_n (ft_d o_Mo_isTold 28 rfl) rfl rfl ?_
      refine fv_icmp_ne (tgt := 46) (ft_d o_Mo_isTold 29 rfl) rfl rfl (fun c => ?_) (fun c => ?_)
      · have w := w.1 c
        refine fv_iinc (L' := [some (.inr (.inr 309)), some (.inl x1), some (.inl x2), some (.inl (ft_add x3 1))]) (ft_d o_Mo_isTold 32 rfl) rfl rfl (Nat.le_of_ble_eq_true rfl) rfl ?_
        refine fv_goto (pc' := 2) (ft_d o_Mo_isTold 33 rfl) rfl ?_
        exact w
      · have w := w.2 c
        refine fv_iconst (ft_d o_Mo_isTold 30 rfl) rfl rfl ?_
        exact fv_zreturn (ft_d o_Mo_isTold 31 rfl) rfl (Or.inr rfl) w
set_option maxRecDepth 20000 in
theorem b_Mo_readsRoute_0  {h : ftH} {R : Option ftV → ftH → Prop} 
    (w : ((¬ (h 332 0 = 60) → ft_V k_Mo_readsRoute 15 [some (.inr (.inr 309)), none, none, none, none] [] h R) ∧ (h 332 0 = 60 → (∃ R1 : Option ftV → ftH → Prop, ft_C k_Mo_fails [.inr (.inr 309)] h R1 ∧ ∀ h1 : ftH, R1 none h1 → ft_V k_Mo_readsRoute 15 [some (.inr (.inr 309)), none, none, none, none] [] h1 R)))) : ft_V k_Mo_readsRoute 0 [some (.inr (.inr 309)), none, none, none, none] [] h R := by
  refine fv_aload_n (ft_d o_Mo_readsRoute 0 rfl) rfl rfl ?_
  refine fv_getR (b := 332) (ft_d o_Mo_readsRoute 1 rfl) rfl fl_Mo_84 sh_309 rfl ly_309_44 ?_
  refine fv_iconst (ft_d o_Mo_readsRoute 2 rfl) rfl rfl ?_
  refine fv_ialdj (j := 0) (ft_d o_Mo_readsRoute 3 rfl) rfl sh_332 ⟨by decide, by decide⟩ rfl ?_
  refine fv_bipush (ft_d o_Mo_readsRoute 4 rfl) rfl rfl ?_
  refine fv_icmp_ne (tgt := 15) (ft_d o_Mo_readsRoute 5 rfl) rfl rfl (fun c => ?_) (fun c => ?_)
  · have w := w.1 c
    exact w
  · have w := w.2 c
    refine fv_aload_n (ft_d o_Mo_readsRoute 6 rfl) rfl rfl ?_
    obtain ⟨R1, c2, w⟩ := w
    refine fv_callv (st := []) rfl rfl (ft_mm (pre := [.inr (.inr 309)]) rfl) (ft_rnV (K' := k_Mo_fails) (As := []) (ft_d o_Mo_readsRoute 7 rfl) ml_Mo_423 li_Mo_fails.1 li_Mo_fails.2 lw_Mo_fails ⟨rfl, rfl, Nat.le_of_ble_eq_true rfl, Nat.le_of_ble_eq_true rfl⟩ sh_309 rfl rfl rfl rfl (Nat.le_of_ble_eq_true rfl) c2) (fun h1 hw => ?_)
    have w := w h1 hw
    exact w
set_option maxRecDepth 20000 in
theorem b_Mo_readsRoute_15  {h : ftH} {R : Option ftV → ftH → Prop} 
    (w : ((h 309 43 = 0 → (∃ R1 : Option ftV → ftH → Prop, ft_C k_Mo_goesOn [.inr (.inr 309)] h R1 ∧ ∀ h1 : ftH, R1 none h1 → (∃ R3 : Option ftV → ftH → Prop, ft_C k_Mo_readsBytes [.inr (.inr 309), .inl 3] h1 R3 ∧ ∀ (z5 : Int) (h2 : ftH), ft_in z5 → R3 (some (.inl z5)) h2 → (∃ R6 : Option ftV → ftH → Prop, ft_C k_Mo_needsNumber [.inr (.inr 309), .inl 0, .inl 255] h2 R6 ∧ ∀ (z8 : Int) (h3 : ftH), ft_in z8 → R6 (some (.inl z8)) h3 → (∀ n9 : Int, n9 = ft_or (ft_shl z5 8) z8 → (∃ R10 : Option ftV → ftH → Prop, ft_C k_Mo_needsSign [.inr (.inr 309), .inl 47] h3 R10 ∧ ∀ h4 : ftH, R10 none h4 → ((¬ (h4 309 43 = 0) → ft_V k_Mo_readsRoute 110 [some (.inr (.inr 309)), some (.inl n9), none, none, none] [] h4 R) ∧ (h4 309 43 = 0 → ((¬ (h4 309 37 = 2) → ft_V k_Mo_readsRoute 110 [some (.inr (.inr 309)), some (.inl n9), none, none, none] [] h4 R) ∧ (h4 309 37 = 2 → ((¬ ((0 : Int) ≤ (h4 309 41) ∧ (h4 309 41) ≤ (32 : Int)) → ft_V k_Mo_readsRoute 110 [some (.inr (.inr 309)), some (.inl n9), none, none, none] [] h4 R) ∧ ((0 : Int) ≤ (h4 309 41) ∧ (h4 309 41) ≤ (32 : Int) → ((¬ ((0 ≤ (h4 309 41) ∧ (h4 309 41) ≤ 32) ∧ pUn n9 % pSz (h4 309 41) = 0) → ft_V k_Mo_readsRoute 106 [some (.inr (.inr 309)), some (.inl n9), none, none, none] [] h4 R) ∧ ((0 ≤ (h4 309 41) ∧ (h4 309 41) ≤ 32) ∧ pUn n9 % pSz (h4 309 41) = 0 → (∃ R16 : Option ftV → ftH → Prop, ft_C k_Mo_isTold [.inr (.inr 309), .inl n9, .inl (h4 309 41)] h4 R16 ∧ ∀ (z18 : Int) (h5 : ftH), ft_in z18 → R16 (some (.inl z18)) h5 → ((z18 = 0 → ft_V k_Mo_readsRoute 110 [some (.inr (.inr 309)), some (.inl n9), none, none, none] [] h5 R) ∧ (¬ (z18 = 0) → ft_V k_Mo_readsRoute 106 [some (.inr (.inr 309)), some (.inl n9), none, none, none] [] h5 R))))))))))))))))) ∧ (¬ (h 309 43 = 0) → R none h))) : ft_V k_Mo_readsRoute 15 [some (.inr (.inr 309)), none, none, none, none] [] h R := by
  refine fv_aload_n (ft_d o_Mo_readsRoute 8 rfl) rfl rfl ?_
  refine fv_getI (ft_d o_Mo_readsRoute 9 rfl) rfl fl_Mo_414 sh_309 rfl ?_
  refine fv_if_eq (tgt := 23) (ft_d o_Mo_readsRoute 10 rfl) rfl rfl (fun c => ?_) (fun c => ?_)
  · have w := w.1 c
    refine fv_aload_n (ft_d o_Mo_readsRoute 12 rfl) rfl rfl ?_
    obtain ⟨R1, c2, w⟩ := w
    refine fv_callv (st := []) rfl rfl (ft_mm (pre := [.inr (.inr 309)]) rfl) (ft_rnV (K' := k_Mo_goesOn) (As := []) (ft_d o_Mo_readsRoute 13 rfl) ml_Mo_420 li_Mo_goesOn.1 li_Mo_goesOn.2 lw_Mo_goesOn ⟨rfl, rfl, Nat.le_of_ble_eq_true rfl, Nat.le_of_ble_eq_true rfl⟩ sh_309 rfl rfl rfl rfl (Nat.le_of_ble_eq_true rfl) c2) (fun h1 hw => ?_)
    have w := w h1 hw
    refine fv_aload_n (ft_d o_Mo_readsRoute 14 rfl) rfl rfl ?_
    refine fv_iconst (ft_d o_Mo_readsRoute 15 rfl) rfl rfl ?_
    obtain ⟨R3, c4, w⟩ := w
    refine fv_calli (st := []) (Or.inl rfl) rfl (ft_mm (pre := [.inl 3, .inr (.inr 309)]) rfl) (ft_rnV (K' := k_Mo_readsBytes) (As := [.inl 3]) (ft_d o_Mo_readsRoute 16 rfl) ml_Mo_432 li_Mo_readsBytes.1 li_Mo_readsBytes.2 lw_Mo_readsBytes ⟨rfl, rfl, Nat.le_of_ble_eq_true rfl, Nat.le_of_ble_eq_true rfl⟩ sh_309 rfl rfl rfl rfl (Nat.le_of_ble_eq_true rfl) c4) (fun z5 h2 hz hw => ?_)
    have w := w z5 h2 hz hw
    refine fv_istore_n (L' := [some (.inr (.inr 309)), some (.inl z5), none, none, none]) (ft_d o_Mo_readsRoute 17 rfl) rfl (Nat.le_of_ble_eq_true rfl) rfl ?_
    refine fv_iload_n (ft_d o_Mo_readsRoute 18 rfl) rfl rfl ?_
    refine fv_bipush (ft_d o_Mo_readsRoute 19 rfl) rfl rfl ?_
    refine fv_ishl (ft_d o_Mo_readsRoute 20 rfl) rfl ?_
    refine fv_aload_n (ft_d o_Mo_readsRoute 21 rfl) rfl rfl ?_
    refine fv_iconst (ft_d o_Mo_readsRoute 22 rfl) rfl rfl ?_
    refine fv_sipush (ft_d o_Mo_readsRoute 23 rfl) rfl rfl ?_
    obtain ⟨R6, c7, w⟩ := w
    refine fv_calli (st := [.inl (ft_shl z5 8)]) (Or.inl rfl) rfl (ft_mm (pre := [.inl 255, .inl 0, .inr (.inr 309)]) rfl) (ft_rnV (K' := k_Mo_needsNumber) (As := [.inl 0, .inl 255]) (ft_d o_Mo_readsRoute 24 rfl) ml_Mo_426 li_Mo_needsNumber.1 li_Mo_needsNumber.2 lw_Mo_needsNumber ⟨rfl, rfl, Nat.le_of_ble_eq_true rfl, Nat.le_of_ble_eq_true rfl⟩ sh_309 rfl rfl rfl rfl (Nat.le_of_ble_eq_true rfl) c7) (fun z8 h3 hz hw => ?_)
    have w := w z8 h3 hz hw
    refine fv_ior (ft_d o_Mo_readsRoute 25 rfl) rfl ?_
    generalize en9 : ft_or (ft_shl z5 8) z8 = n9
    have w := w n9 en9.symm
    refine fv_istore_n (L' := [some (.inr (.inr 309)), some (.inl n9), none, none, none]) (ft_d o_Mo_readsRoute 26 rfl) rfl (Nat.le_of_ble_eq_true rfl) rfl ?_
    refine fv_aload_n (ft_d o_Mo_readsRoute 27 rfl) rfl rfl ?_
    refine fv_bipush (ft_d o_Mo_readsRoute 28 rfl) rfl rfl ?_
    obtain ⟨R10, c11, w⟩ := w
    refine fv_callv (st := []) rfl rfl (ft_mm (pre := [.inl 47, .inr (.inr 309)]) rfl) (ft_rnV (K' := k_Mo_needsSign) (As := [.inl 47]) (ft_d o_Mo_readsRoute 29 rfl) ml_Mo_429 li_Mo_needsSign.1 li_Mo_needsSign.2 lw_Mo_needsSign ⟨rfl, rfl, Nat.le_of_ble_eq_true rfl, Nat.le_of_ble_eq_true rfl⟩ sh_309 rfl rfl rfl rfl (Nat.le_of_ble_eq_true rfl) c11) (fun h4 hw => ?_)
    have w := w h4 hw
    refine fv_aload_n (ft_d o_Mo_readsRoute 30 rfl) rfl rfl ?_
    refine fv_getI (ft_d o_Mo_readsRoute 31 rfl) rfl fl_Mo_414 sh_309 rfl ?_
    refine fv_if_ne (tgt := 110) (ft_d o_Mo_readsRoute 32 rfl) rfl rfl (fun c => ?_) (fun c => ?_)
    · have w := w.1 c
      exact w
    · have w := w.2 c
      refine fv_aload_n (ft_d o_Mo_readsRoute 33 rfl) rfl rfl ?_
      refine fv_getI (ft_d o_Mo_readsRoute 34 rfl) rfl fl_Mo_391 sh_309 rfl ?_
      refine fv_iconst (ft_d o_Mo_readsRoute 35 rfl) rfl rfl ?_
      refine fv_icmp_ne (tgt := 110) (ft_d o_Mo_readsRoute 36 rfl) rfl rfl (fun c => ?_) (fun c => ?_)
      · have w := w.1 c
        exact w
      · have w := w.2 c
        refine fv_aload_n (ft_d o_Mo_readsRoute 37 rfl) rfl rfl ?_
        refine fv_getI (ft_d o_Mo_readsRoute 38 rfl) rfl fl_Mo_408 sh_309 rfl ?_
        refine fv_i2l (ft_d o_Mo_readsRoute 39 rfl) rfl ?_
        refine fv_lconst (z := 0) (ft_d o_Mo_readsRoute 40 rfl) rfl rfl ?_
        refine fv_ldc2 (v := 32) (z := 32) (ft_d o_Mo_readsRoute 41 rfl) rfl (ft_gt 1268 (by decide +kernel) rfl) rfl ?_
        refine fv_callif (st := []) (z := (if (0 : Int) ≤ (h4 309 41) ∧ (h4 309 41) ≤ (32 : Int) then 1 else 0)) (Or.inr rfl) rfl (ft_mm (pre := [.inr (.inl 32), .inr (.inl 0), .inr (.inl (h4 309 41))]) rfl) (ft_rnS (K' := k_Mo_in) (As := [.inr (.inl (h4 309 41)), .inr (.inl 0), .inr (.inl 32)]) (ft_d o_Mo_readsRoute 42 rfl) ml_Mo_106 lz_Mo_in rfl lw_Mo_in ⟨rfl, rfl, Nat.le_of_ble_eq_true rfl, Nat.le_of_ble_eq_true rfl⟩ rfl rfl (Nat.le_of_ble_eq_true rfl) (c_Mo_in)) ?_
        refine fv_if_eq (tgt := 110) (ft_d o_Mo_readsRoute 43 rfl) rfl rfl (fun c => ?_) (fun c => ?_)
        · have w := w.1 (ft_if0.mp c)
          exact w
        · have w := w.2 (ft_if1.mp c)
          refine fv_iload_n (ft_d o_Mo_readsRoute 44 rfl) rfl rfl ?_
          refine fv_aload_n (ft_d o_Mo_readsRoute 45 rfl) rfl rfl ?_
          refine fv_getI (ft_d o_Mo_readsRoute 46 rfl) rfl fl_Mo_408 sh_309 rfl ?_
          refine fv_callif (st := []) (z := (if (0 ≤ (h4 309 41) ∧ (h4 309 41) ≤ 32) ∧ pUn n9 % pSz (h4 309 41) = 0 then 1 else 0)) (Or.inr rfl) rfl (ft_mm (pre := [.inl (h4 309 41), .inl n9]) rfl) (ft_rnS (K' := k_Mo_isPrefix) (As := [.inl n9, .inl (h4 309 41)]) (ft_d o_Mo_readsRoute 47 rfl) ml_Mo_189 lz_Mo_isPrefix rfl lw_Mo_isPrefix ⟨rfl, rfl, Nat.le_of_ble_eq_true rfl, Nat.le_of_ble_eq_true rfl⟩ rfl rfl (Nat.le_of_ble_eq_true rfl) (c_Mo_isPrefix)) ?_
          refine fv_if_eq (tgt := 106) (ft_d o_Mo_readsRoute 48 rfl) rfl rfl (fun c => ?_) (fun c => ?_)
          · have w := w.1 (ft_if0.mp c)
            exact w
          · have w := w.2 (ft_if1.mp c)
            refine fv_aload_n (ft_d o_Mo_readsRoute 49 rfl) rfl rfl ?_
            refine fv_iload_n (ft_d o_Mo_readsRoute 50 rfl) rfl rfl ?_
            refine fv_aload_n (ft_d o_Mo_readsRoute 51 rfl) rfl rfl ?_
            refine fv_getI (ft_d o_Mo_readsRoute 52 rfl) rfl fl_Mo_408 sh_309 rfl ?_
            obtain ⟨R16, c17, w⟩ := w
            refine fv_calli (st := []) (Or.inr rfl) rfl (ft_mm (pre := [.inl (h4 309 41), .inl n9, .inr (.inr 309)]) rfl) (ft_rnV (K' := k_Mo_isTold) (As := [.inl n9, .inl (h4 309 41)]) (ft_d o_Mo_readsRoute 53 rfl) ml_Mo_435 li_Mo_isTold.1 li_Mo_isTold.2 lw_Mo_isTold ⟨rfl, rfl, Nat.le_of_ble_eq_true rfl, Nat.le_of_ble_eq_true rfl⟩ sh_309 rfl rfl rfl rfl (Nat.le_of_ble_eq_true rfl) c17) (fun z18 h5 hz hw => ?_)
            have w := w z18 h5 hz hw
            refine fv_if_eq (tgt := 110) (ft_d o_Mo_readsRoute 54 rfl) rfl rfl (fun c => ?_) (fun c => ?_)
            · have w := w.1 c
              exact w
            · have w := w.2 c
              exact w
  · have w := w.2 c
    exact fv_return (ft_d o_Mo_readsRoute 11 rfl) rfl w
set_option maxRecDepth 20000 in
theorem b_Mo_readsRoute_106 {x1 : Int} {h : ftH} {R : Option ftV → ftH → Prop} 
    (w : (∃ R1 : Option ftV → ftH → Prop, ft_C k_Mo_fails [.inr (.inr 309)] h R1 ∧ ∀ h1 : ftH, R1 none h1 → ft_V k_Mo_readsRoute 110 [some (.inr (.inr 309)), some (.inl x1), none, none, none] [] h1 R)) : ft_V k_Mo_readsRoute 106 [some (.inr (.inr 309)), some (.inl x1), none, none, none] [] h R := by
  refine fv_aload_n (ft_d o_Mo_readsRoute 55 rfl) rfl rfl ?_
  obtain ⟨R1, c2, w⟩ := w
  refine fv_callv (st := []) rfl rfl (ft_mm (pre := [.inr (.inr 309)]) rfl) (ft_rnV (K' := k_Mo_fails) (As := []) (ft_d o_Mo_readsRoute 56 rfl) ml_Mo_423 li_Mo_fails.1 li_Mo_fails.2 lw_Mo_fails ⟨rfl, rfl, Nat.le_of_ble_eq_true rfl, Nat.le_of_ble_eq_true rfl⟩ sh_309 rfl rfl rfl rfl (Nat.le_of_ble_eq_true rfl) c2) (fun h1 hw => ?_)
  have w := w h1 hw
  exact w
set_option maxRecDepth 20000 in
theorem b_Mo_readsRoute_110 {x1 : Int} {h : ftH} {R : Option ftV → ftH → Prop} 
    (w : (∃ R1 : Option ftV → ftH → Prop, ft_C k_Mo_needsNumber [.inr (.inr 309), .inl 0, .inl 32] h R1 ∧ ∀ (z3 : Int) (h1 : ftH), ft_in z3 → R1 (some (.inl z3)) h1 → (∃ R4 : Option ftV → ftH → Prop, ft_C k_Mo_needsWord [.inr (.inr 309), .inl 2] h1 R4 ∧ ∀ h2 : ftH, R4 none h2 → (∃ R6 : Option ftV → ftH → Prop, ft_C k_Mo_needsNumber [.inr (.inr 309), .inl 0, .inl 15] h2 R6 ∧ ∀ (z8 : Int) (h3 : ftH), ft_in z8 → R6 (some (.inl z8)) h3 → (∃ R9 : Option ftV → ftH → Prop, ft_C k_Mo_needsSign [.inr (.inr 309), .inl 59] h3 R9 ∧ ∀ h4 : ftH, R9 none h4 → ((h4 309 43 = 0 → (∀ n11 : Int, n11 = ft_add 10 (ft_mul 3 (h4 332 0)) → ((0 ≤ n11 ∧ n11 < 520) ∧ (∀ h5 : ftH, h5 = ft_hs h4 332 n11.toNat x1 → ((0 ≤ ft_add n11 1 ∧ ft_add n11 1 < 520) ∧ (∀ h6 : ftH, h6 = ft_hs h5 332 (ft_add n11 1).toNat z3 → ((0 ≤ ft_add n11 2 ∧ ft_add n11 2 < 520) ∧ (∀ h7 : ftH, h7 = ft_hs h6 332 (ft_add n11 2).toNat z8 → (∀ h8 : ftH, h8 = ft_hs h7 332 0 (ft_add (h7 332 0) 1) → R none h8))))))))) ∧ (¬ (h4 309 43 = 0) → R none h4))))))) : ft_V k_Mo_readsRoute 110 [some (.inr (.inr 309)), some (.inl x1), none, none, none] [] h R := by
  refine fv_aload_n (ft_d o_Mo_readsRoute 57 rfl) rfl rfl ?_
  refine fv_iconst (ft_d o_Mo_readsRoute 58 rfl) rfl rfl ?_
  refine fv_bipush (ft_d o_Mo_readsRoute 59 rfl) rfl rfl ?_
  obtain ⟨R1, c2, w⟩ := w
  refine fv_calli (st := []) (Or.inl rfl) rfl (ft_mm (pre := [.inl 32, .inl 0, .inr (.inr 309)]) rfl) (ft_rnV (K' := k_Mo_needsNumber) (As := [.inl 0, .inl 32]) (ft_d o_Mo_readsRoute 60 rfl) ml_Mo_426 li_Mo_needsNumber.1 li_Mo_needsNumber.2 lw_Mo_needsNumber ⟨rfl, rfl, Nat.le_of_ble_eq_true rfl, Nat.le_of_ble_eq_true rfl⟩ sh_309 rfl rfl rfl rfl (Nat.le_of_ble_eq_true rfl) c2) (fun z3 h1 hz hw => ?_)
  have w := w z3 h1 hz hw
  refine fv_istore_n (L' := [some (.inr (.inr 309)), some (.inl x1), some (.inl z3), none, none]) (ft_d o_Mo_readsRoute 61 rfl) rfl (Nat.le_of_ble_eq_true rfl) rfl ?_
  refine fv_aload_n (ft_d o_Mo_readsRoute 62 rfl) rfl rfl ?_
  refine fv_iconst (ft_d o_Mo_readsRoute 63 rfl) rfl rfl ?_
  obtain ⟨R4, c5, w⟩ := w
  refine fv_callv (st := []) rfl rfl (ft_mm (pre := [.inl 2, .inr (.inr 309)]) rfl) (ft_rnV (K' := k_Mo_needsWord) (As := [.inl 2]) (ft_d o_Mo_readsRoute 64 rfl) ml_Mo_438 li_Mo_needsWord.1 li_Mo_needsWord.2 lw_Mo_needsWord ⟨rfl, rfl, Nat.le_of_ble_eq_true rfl, Nat.le_of_ble_eq_true rfl⟩ sh_309 rfl rfl rfl rfl (Nat.le_of_ble_eq_true rfl) c5) (fun h2 hw => ?_)
  have w := w h2 hw
  refine fv_aload_n (ft_d o_Mo_readsRoute 65 rfl) rfl rfl ?_
  refine fv_iconst (ft_d o_Mo_readsRoute 66 rfl) rfl rfl ?_
  refine fv_bipush (ft_d o_Mo_readsRoute 67 rfl) rfl rfl ?_
  obtain ⟨R6, c7, w⟩ := w
  refine fv_calli (st := []) (Or.inl rfl) rfl (ft_mm (pre := [.inl 15, .inl 0, .inr (.inr 309)]) rfl) (ft_rnV (K' := k_Mo_needsNumber) (As := [.inl 0, .inl 15]) (ft_d o_Mo_readsRoute 68 rfl) ml_Mo_426 li_Mo_needsNumber.1 li_Mo_needsNumber.2 lw_Mo_needsNumber ⟨rfl, rfl, Nat.le_of_ble_eq_true rfl, Nat.le_of_ble_eq_true rfl⟩ sh_309 rfl rfl rfl rfl (Nat.le_of_ble_eq_true rfl) c7) (fun z8 h3 hz hw => ?_)
  have w := w z8 h3 hz hw
  refine fv_istore_n (L' := [some (.inr (.inr 309)), some (.inl x1), some (.inl z3), some (.inl z8), none]) (ft_d o_Mo_readsRoute 69 rfl) rfl (Nat.le_of_ble_eq_true rfl) rfl ?_
  refine fv_aload_n (ft_d o_Mo_readsRoute 70 rfl) rfl rfl ?_
  refine fv_bipush (ft_d o_Mo_readsRoute 71 rfl) rfl rfl ?_
  obtain ⟨R9, c10, w⟩ := w
  refine fv_callv (st := []) rfl rfl (ft_mm (pre := [.inl 59, .inr (.inr 309)]) rfl) (ft_rnV (K' := k_Mo_needsSign) (As := [.inl 59]) (ft_d o_Mo_readsRoute 72 rfl) ml_Mo_429 li_Mo_needsSign.1 li_Mo_needsSign.2 lw_Mo_needsSign ⟨rfl, rfl, Nat.le_of_ble_eq_true rfl, Nat.le_of_ble_eq_true rfl⟩ sh_309 rfl rfl rfl rfl (Nat.le_of_ble_eq_true rfl) c10) (fun h4 hw => ?_)
  have w := w h4 hw
  refine fv_aload_n (ft_d o_Mo_readsRoute 73 rfl) rfl rfl ?_
  refine fv_getI (ft_d o_Mo_readsRoute 74 rfl) rfl fl_Mo_414 sh_309 rfl ?_
  refine fv_if_eq (tgt := 145) (ft_d o_Mo_readsRoute 75 rfl) rfl rfl (fun c => ?_) (fun c => ?_)
  · have w := w.1 c
    refine fv_bipush (ft_d o_Mo_readsRoute 77 rfl) rfl rfl ?_
    refine fv_iconst (ft_d o_Mo_readsRoute 78 rfl) rfl rfl ?_
    refine fv_aload_n (ft_d o_Mo_readsRoute 79 rfl) rfl rfl ?_
    refine fv_getR (b := 332) (ft_d o_Mo_readsRoute 80 rfl) rfl fl_Mo_84 sh_309 rfl ly_309_44 ?_
    refine fv_iconst (ft_d o_Mo_readsRoute 81 rfl) rfl rfl ?_
    refine fv_ialdj (j := 0) (ft_d o_Mo_readsRoute 82 rfl) rfl sh_332 ⟨by decide, by decide⟩ rfl ?_
    refine fv_imul (ft_d o_Mo_readsRoute 83 rfl) rfl ?_
    refine fv_iadd (ft_d o_Mo_readsRoute 84 rfl) rfl ?_
    generalize en11 : ft_add 10 (ft_mul 3 (h4 332 0)) = n11
    have w := w n11 en11.symm
    refine fv_istore (L' := [some (.inr (.inr 309)), some (.inl x1), some (.inl z3), some (.inl z8), some (.inl n11)]) (ft_d o_Mo_readsRoute 85 rfl) rfl (Nat.le_of_ble_eq_true rfl) rfl ?_
    refine fv_aload_n (ft_d o_Mo_readsRoute 86 rfl) rfl rfl ?_
    refine fv_getR (b := 332) (ft_d o_Mo_readsRoute 87 rfl) rfl fl_Mo_84 sh_309 rfl ly_309_44 ?_
    refine fv_iload (ft_d o_Mo_readsRoute 88 rfl) rfl rfl ?_
    refine fv_iload_n (ft_d o_Mo_readsRoute 89 rfl) rfl rfl ?_
    refine fv_iast (ft_d o_Mo_readsRoute 90 rfl) rfl sh_332 w.1 ?_
    have w := w.2
    generalize eh5 : ft_hs h4 332 n11.toNat x1 = h5
    have w := w h5 eh5.symm
    refine fv_aload_n (ft_d o_Mo_readsRoute 91 rfl) rfl rfl ?_
    refine fv_getR (b := 332) (ft_d o_Mo_readsRoute 92 rfl) rfl fl_Mo_84 sh_309 rfl ly_309_44 ?_
    refine fv_iload (ft_d o_Mo_readsRoute 93 rfl) rfl rfl ?_
    refine fv_iconst (ft_d o_Mo_readsRoute 94 rfl) rfl rfl ?_
    refine fv_iadd (ft_d o_Mo_readsRoute 95 rfl) rfl ?_
    refine fv_iload_n (ft_d o_Mo_readsRoute 96 rfl) rfl rfl ?_
    refine fv_iast (ft_d o_Mo_readsRoute 97 rfl) rfl sh_332 w.1 ?_
    have w := w.2
    generalize eh6 : ft_hs h5 332 (ft_add n11 1).toNat z3 = h6
    have w := w h6 eh6.symm
    refine fv_aload_n (ft_d o_Mo_readsRoute 98 rfl) rfl rfl ?_
    refine fv_getR (b := 332) (ft_d o_Mo_readsRoute 99 rfl) rfl fl_Mo_84 sh_309 rfl ly_309_44 ?_
    refine fv_iload (ft_d o_Mo_readsRoute 100 rfl) rfl rfl ?_
    refine fv_iconst (ft_d o_Mo_readsRoute 101 rfl) rfl rfl ?_
    refine fv_iadd (ft_d o_Mo_readsRoute 102 rfl) rfl ?_
    refine fv_iload_n (ft_d o_Mo_readsRoute 103 rfl) rfl rfl ?_
    refine fv_iast (ft_d o_Mo_readsRoute 104 rfl) rfl sh_332 w.1 ?_
    have w := w.2
    generalize eh7 : ft_hs h6 332 (ft_add n11 2).toNat z8 = h7
    have w := w h7 eh7.symm
    refine fv_aload_n (ft_d o_Mo_readsRoute 105 rfl) rfl rfl ?_
    refine fv_getR (b := 332) (ft_d o_Mo_readsRoute 106 rfl) rfl fl_Mo_84 sh_309 rfl ly_309_44 ?_
    refine fv_iconst (ft_d o_Mo_readsRoute 107 rfl) rfl rfl ?_
    refine fv_dup2 (ft_d o_Mo_readsRoute 108 rfl) rfl rfl rfl ?_
    refine fv_ialdj (j := 0) (ft_d o_Mo_readsRoute 109 rfl) rfl sh_332 ⟨by decide, by decide⟩ rfl ?_
    refine fv_iconst (ft_d o_Mo_readsRoute 110 rfl) rfl rfl ?_
    refine fv_iadd (ft_d o_Mo_readsRoute 111 rfl) rfl ?_
    refine fv_iastj (j := 0) (ft_d o_Mo_readsRoute 112 rfl) rfl sh_332 ⟨by decide, by decide⟩ rfl ?_
    generalize eh8 : ft_hs h7 332 0 (ft_add (h7 332 0) 1) = h8
    have w := w h8 eh8.symm
    exact fv_return (ft_d o_Mo_readsRoute 113 rfl) rfl w
  · have w := w.2 c
    exact fv_return (ft_d o_Mo_readsRoute 76 rfl) rfl w
set_option maxRecDepth 20000 in
theorem b_Mo_isSeen_0 {x1 : Int} {h : ftH} {R : Option ftV → ftH → Prop} 
    (w : ft_V k_Mo_isSeen 2 [some (.inr (.inr 309)), some (.inl x1), some (.inl 0)] [] h R) : ft_V k_Mo_isSeen 0 [some (.inr (.inr 309)), some (.inl x1), none] [] h R := by
  refine fv_iconst (ft_d o_Mo_isSeen 0 rfl) rfl rfl ?_
  refine fv_istore_n (L' := [some (.inr (.inr 309)), some (.inl x1), some (.inl 0)]) (ft_d o_Mo_isSeen 1 rfl) rfl (Nat.le_of_ble_eq_true rfl) rfl ?_
  exact w
set_option maxRecDepth 20000 in
theorem b_Mo_isSeen_2 {x1 : Int} {x2 : Int} {h : ftH} {R : Option ftV → ftH → Prop} 
    (w : ((h 332 1 ≤ x2 → R (some (.inl 0)) h) ∧ (¬ (h 332 1 ≤ x2) → ((0 ≤ ft_add 190 (ft_mul 2 x2) ∧ ft_add 190 (ft_mul 2 x2) < 520) ∧ ((¬ (h 332 (ft_add 190 (ft_mul 2 x2)).toNat = x1) → ft_V k_Mo_isSeen 2 [some (.inr (.inr 309)), some (.inl x1), some (.inl (ft_add x2 1))] [] h R) ∧ (h 332 (ft_add 190 (ft_mul 2 x2)).toNat = x1 → R (some (.inl 1)) h)))))) : ft_V k_Mo_isSeen 2 [some (.inr (.inr 309)), some (.inl x1), some (.inl x2)] [] h R := by
  refine fv_iload_n (ft_d o_Mo_isSeen 2 rfl) rfl rfl ?_
  refine fv_aload_n (ft_d o_Mo_isSeen 3 rfl) rfl rfl ?_
  refine fv_getR (b := 332) (ft_d o_Mo_isSeen 4 rfl) rfl fl_Mo_84 sh_309 rfl ly_309_44 ?_
  refine fv_iconst (ft_d o_Mo_isSeen 5 rfl) rfl rfl ?_
  refine fv_ialdj (j := 1) (ft_d o_Mo_isSeen 6 rfl) rfl sh_332 ⟨by decide, by decide⟩ rfl ?_
  refine fv_icmp_ge (tgt := 36) (ft_d o_Mo_isSeen 7 rfl) rfl rfl (fun c => ?_) (fun c => ?_)
  · have w := w.1 c
    refine fv_iconst (ft_d o_Mo_isSeen 22 rfl) rfl rfl ?_
    exact fv_zreturn (ft_d o_Mo_isSeen 23 rfl) rfl (Or.inl rfl) w
  · have w := w.2 c
    refine fv_aload_n (ft_d o_Mo_isSeen 8 rfl) rfl rfl ?_
    refine fv_getR (b := 332) (ft_d o_Mo_isSeen 9 rfl) rfl fl_Mo_84 sh_309 rfl ly_309_44 ?_
    refine fv_sipush (ft_d o_Mo_isSeen 10 rfl) rfl rfl ?_
    refine fv_iconst (ft_d o_Mo_isSeen 11 rfl) rfl rfl ?_
    refine fv_iload_n (ft_d o_Mo_isSeen 12 rfl) rfl rfl ?_
    refine fv_imul (ft_d o_Mo_isSeen 13 rfl) rfl ?_
    refine fv_iadd (ft_d o_Mo_isSeen 14 rfl) rfl ?_
    refine fv_iald (ft_d o_Mo_isSeen 15 rfl) rfl sh_332 w.1 ?_
    have w := w.2
    refine fv_iload_n (ft_d o_Mo_isSeen 16 rfl) rfl rfl ?_
    refine fv_icmp_ne (tgt := 30) (ft_d o_Mo_isSeen 17 rfl) rfl rfl (fun c => ?_) (fun c => ?_)
    · have w := w.1 c
      refine fv_iinc (L' := [some (.inr (.inr 309)), some (.inl x1), some (.inl (ft_add x2 1))]) (ft_d o_Mo_isSeen 20 rfl) rfl rfl (Nat.le_of_ble_eq_true rfl) rfl ?_
      refine fv_goto (pc' := 2) (ft_d o_Mo_isSeen 21 rfl) rfl ?_
      exact w
    · have w := w.2 c
      refine fv_iconst (ft_d o_Mo_isSeen 18 rfl) rfl rfl ?_
      exact fv_zreturn (ft_d o_Mo_isSeen 19 rfl) rfl (Or.inr rfl) w
set_option maxRecDepth 20000 in
theorem b_Mo_readsSeen_0  {h : ftH} {R : Option ftV → ftH → Prop} 
    (w : ((¬ (h 332 1 = 40) → ft_V k_Mo_readsSeen 15 [some (.inr (.inr 309)), none, none] [] h R) ∧ (h 332 1 = 40 → (∃ R1 : Option ftV → ftH → Prop, ft_C k_Mo_fails [.inr (.inr 309)] h R1 ∧ ∀ h1 : ftH, R1 none h1 → ft_V k_Mo_readsSeen 15 [some (.inr (.inr 309)), none, none] [] h1 R)))) : ft_V k_Mo_readsSeen 0 [some (.inr (.inr 309)), none, none] [] h R := by
  refine fv_aload_n (ft_d o_Mo_readsSeen 0 rfl) rfl rfl ?_
  refine fv_getR (b := 332) (ft_d o_Mo_readsSeen 1 rfl) rfl fl_Mo_84 sh_309 rfl ly_309_44 ?_
  refine fv_iconst (ft_d o_Mo_readsSeen 2 rfl) rfl rfl ?_
  refine fv_ialdj (j := 1) (ft_d o_Mo_readsSeen 3 rfl) rfl sh_332 ⟨by decide, by decide⟩ rfl ?_
  refine fv_bipush (ft_d o_Mo_readsSeen 4 rfl) rfl rfl ?_
  refine fv_icmp_ne (tgt := 15) (ft_d o_Mo_readsSeen 5 rfl) rfl rfl (fun c => ?_) (fun c => ?_)
  · have w := w.1 c
    exact w
  · have w := w.2 c
    refine fv_aload_n (ft_d o_Mo_readsSeen 6 rfl) rfl rfl ?_
    obtain ⟨R1, c2, w⟩ := w
    refine fv_callv (st := []) rfl rfl (ft_mm (pre := [.inr (.inr 309)]) rfl) (ft_rnV (K' := k_Mo_fails) (As := []) (ft_d o_Mo_readsSeen 7 rfl) ml_Mo_423 li_Mo_fails.1 li_Mo_fails.2 lw_Mo_fails ⟨rfl, rfl, Nat.le_of_ble_eq_true rfl, Nat.le_of_ble_eq_true rfl⟩ sh_309 rfl rfl rfl rfl (Nat.le_of_ble_eq_true rfl) c2) (fun h1 hw => ?_)
    have w := w h1 hw
    exact w
set_option maxRecDepth 20000 in
theorem b_Mo_readsSeen_15  {h : ftH} {R : Option ftV → ftH → Prop} 
    (w : ((h 309 43 = 0 → (∃ R1 : Option ftV → ftH → Prop, ft_C k_Mo_goesOn [.inr (.inr 309)] h R1 ∧ ∀ h1 : ftH, R1 none h1 → (∃ R3 : Option ftV → ftH → Prop, ft_C k_Mo_readsBytes [.inr (.inr 309), .inl 3] h1 R3 ∧ ∀ (z5 : Int) (h2 : ftH), ft_in z5 → R3 (some (.inl z5)) h2 → ((¬ (h2 309 43 = 0) → ft_V k_Mo_readsSeen 83 [some (.inr (.inr 309)), some (.inl z5), none] [] h2 R) ∧ (h2 309 43 = 0 → ((¬ (h2 309 37 = 2) → ft_V k_Mo_readsSeen 83 [some (.inr (.inr 309)), some (.inl z5), none] [] h2 R) ∧ (h2 309 37 = 2 → ((¬ ((0 : Int) ≤ (h2 309 41) ∧ (h2 309 41) ≤ (255 : Int)) → ft_V k_Mo_readsSeen 83 [some (.inr (.inr 309)), some (.inl z5), none] [] h2 R) ∧ ((0 : Int) ≤ (h2 309 41) ∧ (h2 309 41) ≤ (255 : Int) → (∃ R8 : Option ftV → ftH → Prop, ft_C k_Mo_isSeen [.inr (.inr 309), .inl (ft_or (ft_shl z5 8) (h2 309 41))] h2 R8 ∧ ∀ (z10 : Int) (h3 : ftH), ft_in z10 → R8 (some (.inl z10)) h3 → ((z10 = 0 → ft_V k_Mo_readsSeen 83 [some (.inr (.inr 309)), some (.inl z5), none] [] h3 R) ∧ (¬ (z10 = 0) → (∃ R11 : Option ftV → ftH → Prop, ft_C k_Mo_fails [.inr (.inr 309)] h3 R11 ∧ ∀ h4 : ftH, R11 none h4 → ft_V k_Mo_readsSeen 83 [some (.inr (.inr 309)), some (.inl z5), none] [] h4 R))))))))))))) ∧ (¬ (h 309 43 = 0) → R none h))) : ft_V k_Mo_readsSeen 15 [some (.inr (.inr 309)), none, none] [] h R := by
  refine fv_aload_n (ft_d o_Mo_readsSeen 8 rfl) rfl rfl ?_
  refine fv_getI (ft_d o_Mo_readsSeen 9 rfl) rfl fl_Mo_414 sh_309 rfl ?_
  refine fv_if_eq (tgt := 23) (ft_d o_Mo_readsSeen 10 rfl) rfl rfl (fun c => ?_) (fun c => ?_)
  · have w := w.1 c
    refine fv_aload_n (ft_d o_Mo_readsSeen 12 rfl) rfl rfl ?_
    obtain ⟨R1, c2, w⟩ := w
    refine fv_callv (st := []) rfl rfl (ft_mm (pre := [.inr (.inr 309)]) rfl) (ft_rnV (K' := k_Mo_goesOn) (As := []) (ft_d o_Mo_readsSeen 13 rfl) ml_Mo_420 li_Mo_goesOn.1 li_Mo_goesOn.2 lw_Mo_goesOn ⟨rfl, rfl, Nat.le_of_ble_eq_true rfl, Nat.le_of_ble_eq_true rfl⟩ sh_309 rfl rfl rfl rfl (Nat.le_of_ble_eq_true rfl) c2) (fun h1 hw => ?_)
    have w := w h1 hw
    refine fv_aload_n (ft_d o_Mo_readsSeen 14 rfl) rfl rfl ?_
    refine fv_iconst (ft_d o_Mo_readsSeen 15 rfl) rfl rfl ?_
    obtain ⟨R3, c4, w⟩ := w
    refine fv_calli (st := []) (Or.inl rfl) rfl (ft_mm (pre := [.inl 3, .inr (.inr 309)]) rfl) (ft_rnV (K' := k_Mo_readsBytes) (As := [.inl 3]) (ft_d o_Mo_readsSeen 16 rfl) ml_Mo_432 li_Mo_readsBytes.1 li_Mo_readsBytes.2 lw_Mo_readsBytes ⟨rfl, rfl, Nat.le_of_ble_eq_true rfl, Nat.le_of_ble_eq_true rfl⟩ sh_309 rfl rfl rfl rfl (Nat.le_of_ble_eq_true rfl) c4) (fun z5 h2 hz hw => ?_)
    have w := w z5 h2 hz hw
    refine fv_istore_n (L' := [some (.inr (.inr 309)), some (.inl z5), none]) (ft_d o_Mo_readsSeen 17 rfl) rfl (Nat.le_of_ble_eq_true rfl) rfl ?_
    refine fv_aload_n (ft_d o_Mo_readsSeen 18 rfl) rfl rfl ?_
    refine fv_getI (ft_d o_Mo_readsSeen 19 rfl) rfl fl_Mo_414 sh_309 rfl ?_
    refine fv_if_ne (tgt := 83) (ft_d o_Mo_readsSeen 20 rfl) rfl rfl (fun c => ?_) (fun c => ?_)
    · have w := w.1 c
      exact w
    · have w := w.2 c
      refine fv_aload_n (ft_d o_Mo_readsSeen 21 rfl) rfl rfl ?_
      refine fv_getI (ft_d o_Mo_readsSeen 22 rfl) rfl fl_Mo_391 sh_309 rfl ?_
      refine fv_iconst (ft_d o_Mo_readsSeen 23 rfl) rfl rfl ?_
      refine fv_icmp_ne (tgt := 83) (ft_d o_Mo_readsSeen 24 rfl) rfl rfl (fun c => ?_) (fun c => ?_)
      · have w := w.1 c
        exact w
      · have w := w.2 c
        refine fv_aload_n (ft_d o_Mo_readsSeen 25 rfl) rfl rfl ?_
        refine fv_getI (ft_d o_Mo_readsSeen 26 rfl) rfl fl_Mo_408 sh_309 rfl ?_
        refine fv_i2l (ft_d o_Mo_readsSeen 27 rfl) rfl ?_
        refine fv_lconst (z := 0) (ft_d o_Mo_readsSeen 28 rfl) rfl rfl ?_
        refine fv_ldc2 (v := 255) (z := 255) (ft_d o_Mo_readsSeen 29 rfl) rfl (ft_gt 1713 (by decide +kernel) rfl) rfl ?_
        refine fv_callif (st := []) (z := (if (0 : Int) ≤ (h2 309 41) ∧ (h2 309 41) ≤ (255 : Int) then 1 else 0)) (Or.inr rfl) rfl (ft_mm (pre := [.inr (.inl 255), .inr (.inl 0), .inr (.inl (h2 309 41))]) rfl) (ft_rnS (K' := k_Mo_in) (As := [.inr (.inl (h2 309 41)), .inr (.inl 0), .inr (.inl 255)]) (ft_d o_Mo_readsSeen 30 rfl) ml_Mo_106 lz_Mo_in rfl lw_Mo_in ⟨rfl, rfl, Nat.le_of_ble_eq_true rfl, Nat.le_of_ble_eq_true rfl⟩ rfl rfl (Nat.le_of_ble_eq_true rfl) (c_Mo_in)) ?_
        refine fv_if_eq (tgt := 83) (ft_d o_Mo_readsSeen 31 rfl) rfl rfl (fun c => ?_) (fun c => ?_)
        · have w := w.1 (ft_if0.mp c)
          exact w
        · have w := w.2 (ft_if1.mp c)
          refine fv_aload_n (ft_d o_Mo_readsSeen 32 rfl) rfl rfl ?_
          refine fv_iload_n (ft_d o_Mo_readsSeen 33 rfl) rfl rfl ?_
          refine fv_bipush (ft_d o_Mo_readsSeen 34 rfl) rfl rfl ?_
          refine fv_ishl (ft_d o_Mo_readsSeen 35 rfl) rfl ?_
          refine fv_aload_n (ft_d o_Mo_readsSeen 36 rfl) rfl rfl ?_
          refine fv_getI (ft_d o_Mo_readsSeen 37 rfl) rfl fl_Mo_408 sh_309 rfl ?_
          refine fv_ior (ft_d o_Mo_readsSeen 38 rfl) rfl ?_
          obtain ⟨R8, c9, w⟩ := w
          refine fv_calli (st := []) (Or.inr rfl) rfl (ft_mm (pre := [.inl (ft_or (ft_shl z5 8) (h2 309 41)), .inr (.inr 309)]) rfl) (ft_rnV (K' := k_Mo_isSeen) (As := [.inl (ft_or (ft_shl z5 8) (h2 309 41))]) (ft_d o_Mo_readsSeen 39 rfl) ml_Mo_443 li_Mo_isSeen.1 li_Mo_isSeen.2 lw_Mo_isSeen ⟨rfl, rfl, Nat.le_of_ble_eq_true rfl, Nat.le_of_ble_eq_true rfl⟩ sh_309 rfl rfl rfl rfl (Nat.le_of_ble_eq_true rfl) c9) (fun z10 h3 hz hw => ?_)
          have w := w z10 h3 hz hw
          refine fv_if_eq (tgt := 83) (ft_d o_Mo_readsSeen 40 rfl) rfl rfl (fun c => ?_) (fun c => ?_)
          · have w := w.1 c
            exact w
          · have w := w.2 c
            refine fv_aload_n (ft_d o_Mo_readsSeen 41 rfl) rfl rfl ?_
            obtain ⟨R11, c12, w⟩ := w
            refine fv_callv (st := []) rfl rfl (ft_mm (pre := [.inr (.inr 309)]) rfl) (ft_rnV (K' := k_Mo_fails) (As := []) (ft_d o_Mo_readsSeen 42 rfl) ml_Mo_423 li_Mo_fails.1 li_Mo_fails.2 lw_Mo_fails ⟨rfl, rfl, Nat.le_of_ble_eq_true rfl, Nat.le_of_ble_eq_true rfl⟩ sh_309 rfl rfl rfl rfl (Nat.le_of_ble_eq_true rfl) c12) (fun h4 hw => ?_)
            have w := w h4 hw
            exact w
  · have w := w.2 c
    exact fv_return (ft_d o_Mo_readsSeen 11 rfl) rfl w
set_option maxRecDepth 20000 in
theorem b_Mo_readsSeen_83 {x1 : Int} {h : ftH} {R : Option ftV → ftH → Prop} 
    (w : (∃ R1 : Option ftV → ftH → Prop, ft_C k_Mo_needsNumber [.inr (.inr 309), .inl 0, .inl 255] h R1 ∧ ∀ (z3 : Int) (h1 : ftH), ft_in z3 → R1 (some (.inl z3)) h1 → (∀ n4 : Int, n4 = ft_or (ft_shl x1 8) z3 → (∃ R5 : Option ftV → ftH → Prop, ft_C k_Mo_needsWord [.inr (.inr 309), .inl 4] h1 R5 ∧ ∀ h2 : ftH, R5 none h2 → (∃ R7 : Option ftV → ftH → Prop, ft_C k_Mo_needsNumber [.inr (.inr 309), .inl 1, .inl 999] h2 R7 ∧ ∀ (z9 : Int) (h3 : ftH), ft_in z9 → R7 (some (.inl z9)) h3 → (∃ R10 : Option ftV → ftH → Prop, ft_C k_Mo_needsSign [.inr (.inr 309), .inl 59] h3 R10 ∧ ∀ h4 : ftH, R10 none h4 → ((h4 309 43 = 0 → ((0 ≤ ft_add 190 (ft_mul 2 (h4 332 1)) ∧ ft_add 190 (ft_mul 2 (h4 332 1)) < 520) ∧ (∀ h5 : ftH, h5 = ft_hs h4 332 (ft_add 190 (ft_mul 2 (h4 332 1))).toNat n4 → ((0 ≤ ft_add (ft_add 190 (ft_mul 2 (h5 332 1))) 1 ∧ ft_add (ft_add 190 (ft_mul 2 (h5 332 1))) 1 < 520) ∧ (∀ h6 : ftH, h6 = ft_hs h5 332 (ft_add (ft_add 190 (ft_mul 2 (h5 332 1))) 1).toNat z9 → (∀ h7 : ftH, h7 = ft_hs h6 332 1 (ft_add (h6 332 1) 1) → R none h7)))))) ∧ (¬ (h4 309 43 = 0) → R none h4)))))))) : ft_V k_Mo_readsSeen 83 [some (.inr (.inr 309)), some (.inl x1), none] [] h R := by
  refine fv_iload_n (ft_d o_Mo_readsSeen 43 rfl) rfl rfl ?_
  refine fv_bipush (ft_d o_Mo_readsSeen 44 rfl) rfl rfl ?_
  refine fv_ishl (ft_d o_Mo_readsSeen 45 rfl) rfl ?_
  refine fv_aload_n (ft_d o_Mo_readsSeen 46 rfl) rfl rfl ?_
  refine fv_iconst (ft_d o_Mo_readsSeen 47 rfl) rfl rfl ?_
  refine fv_sipush (ft_d o_Mo_readsSeen 48 rfl) rfl rfl ?_
  obtain ⟨R1, c2, w⟩ := w
  refine fv_calli (st := [.inl (ft_shl x1 8)]) (Or.inl rfl) rfl (ft_mm (pre := [.inl 255, .inl 0, .inr (.inr 309)]) rfl) (ft_rnV (K' := k_Mo_needsNumber) (As := [.inl 0, .inl 255]) (ft_d o_Mo_readsSeen 49 rfl) ml_Mo_426 li_Mo_needsNumber.1 li_Mo_needsNumber.2 lw_Mo_needsNumber ⟨rfl, rfl, Nat.le_of_ble_eq_true rfl, Nat.le_of_ble_eq_true rfl⟩ sh_309 rfl rfl rfl rfl (Nat.le_of_ble_eq_true rfl) c2) (fun z3 h1 hz hw => ?_)
  have w := w z3 h1 hz hw
  refine fv_ior (ft_d o_Mo_readsSeen 50 rfl) rfl ?_
  generalize en4 : ft_or (ft_shl x1 8) z3 = n4
  have w := w n4 en4.symm
  refine fv_istore_n (L' := [some (.inr (.inr 309)), some (.inl n4), none]) (ft_d o_Mo_readsSeen 51 rfl) rfl (Nat.le_of_ble_eq_true rfl) rfl ?_
  refine fv_aload_n (ft_d o_Mo_readsSeen 52 rfl) rfl rfl ?_
  refine fv_iconst (ft_d o_Mo_readsSeen 53 rfl) rfl rfl ?_
  obtain ⟨R5, c6, w⟩ := w
  refine fv_callv (st := []) rfl rfl (ft_mm (pre := [.inl 4, .inr (.inr 309)]) rfl) (ft_rnV (K' := k_Mo_needsWord) (As := [.inl 4]) (ft_d o_Mo_readsSeen 54 rfl) ml_Mo_438 li_Mo_needsWord.1 li_Mo_needsWord.2 lw_Mo_needsWord ⟨rfl, rfl, Nat.le_of_ble_eq_true rfl, Nat.le_of_ble_eq_true rfl⟩ sh_309 rfl rfl rfl rfl (Nat.le_of_ble_eq_true rfl) c6) (fun h2 hw => ?_)
  have w := w h2 hw
  refine fv_aload_n (ft_d o_Mo_readsSeen 55 rfl) rfl rfl ?_
  refine fv_iconst (ft_d o_Mo_readsSeen 56 rfl) rfl rfl ?_
  refine fv_sipush (ft_d o_Mo_readsSeen 57 rfl) rfl rfl ?_
  obtain ⟨R7, c8, w⟩ := w
  refine fv_calli (st := []) (Or.inl rfl) rfl (ft_mm (pre := [.inl 999, .inl 1, .inr (.inr 309)]) rfl) (ft_rnV (K' := k_Mo_needsNumber) (As := [.inl 1, .inl 999]) (ft_d o_Mo_readsSeen 58 rfl) ml_Mo_426 li_Mo_needsNumber.1 li_Mo_needsNumber.2 lw_Mo_needsNumber ⟨rfl, rfl, Nat.le_of_ble_eq_true rfl, Nat.le_of_ble_eq_true rfl⟩ sh_309 rfl rfl rfl rfl (Nat.le_of_ble_eq_true rfl) c8) (fun z9 h3 hz hw => ?_)
  have w := w z9 h3 hz hw
  refine fv_istore_n (L' := [some (.inr (.inr 309)), some (.inl n4), some (.inl z9)]) (ft_d o_Mo_readsSeen 59 rfl) rfl (Nat.le_of_ble_eq_true rfl) rfl ?_
  refine fv_aload_n (ft_d o_Mo_readsSeen 60 rfl) rfl rfl ?_
  refine fv_bipush (ft_d o_Mo_readsSeen 61 rfl) rfl rfl ?_
  obtain ⟨R10, c11, w⟩ := w
  refine fv_callv (st := []) rfl rfl (ft_mm (pre := [.inl 59, .inr (.inr 309)]) rfl) (ft_rnV (K' := k_Mo_needsSign) (As := [.inl 59]) (ft_d o_Mo_readsSeen 62 rfl) ml_Mo_429 li_Mo_needsSign.1 li_Mo_needsSign.2 lw_Mo_needsSign ⟨rfl, rfl, Nat.le_of_ble_eq_true rfl, Nat.le_of_ble_eq_true rfl⟩ sh_309 rfl rfl rfl rfl (Nat.le_of_ble_eq_true rfl) c11) (fun h4 hw => ?_)
  have w := w h4 hw
  refine fv_aload_n (ft_d o_Mo_readsSeen 63 rfl) rfl rfl ?_
  refine fv_getI (ft_d o_Mo_readsSeen 64 rfl) rfl fl_Mo_414 sh_309 rfl ?_
  refine fv_if_eq (tgt := 125) (ft_d o_Mo_readsSeen 65 rfl) rfl rfl (fun c => ?_) (fun c => ?_)
  · have w := w.1 c
    refine fv_aload_n (ft_d o_Mo_readsSeen 67 rfl) rfl rfl ?_
    refine fv_getR (b := 332) (ft_d o_Mo_readsSeen 68 rfl) rfl fl_Mo_84 sh_309 rfl ly_309_44 ?_
    refine fv_sipush (ft_d o_Mo_readsSeen 69 rfl) rfl rfl ?_
    refine fv_iconst (ft_d o_Mo_readsSeen 70 rfl) rfl rfl ?_
    refine fv_aload_n (ft_d o_Mo_readsSeen 71 rfl) rfl rfl ?_
    refine fv_getR (b := 332) (ft_d o_Mo_readsSeen 72 rfl) rfl fl_Mo_84 sh_309 rfl ly_309_44 ?_
    refine fv_iconst (ft_d o_Mo_readsSeen 73 rfl) rfl rfl ?_
    refine fv_ialdj (j := 1) (ft_d o_Mo_readsSeen 74 rfl) rfl sh_332 ⟨by decide, by decide⟩ rfl ?_
    refine fv_imul (ft_d o_Mo_readsSeen 75 rfl) rfl ?_
    refine fv_iadd (ft_d o_Mo_readsSeen 76 rfl) rfl ?_
    refine fv_iload_n (ft_d o_Mo_readsSeen 77 rfl) rfl rfl ?_
    refine fv_iast (ft_d o_Mo_readsSeen 78 rfl) rfl sh_332 w.1 ?_
    have w := w.2
    generalize eh5 : ft_hs h4 332 (ft_add 190 (ft_mul 2 (h4 332 1))).toNat n4 = h5
    have w := w h5 eh5.symm
    refine fv_aload_n (ft_d o_Mo_readsSeen 79 rfl) rfl rfl ?_
    refine fv_getR (b := 332) (ft_d o_Mo_readsSeen 80 rfl) rfl fl_Mo_84 sh_309 rfl ly_309_44 ?_
    refine fv_sipush (ft_d o_Mo_readsSeen 81 rfl) rfl rfl ?_
    refine fv_iconst (ft_d o_Mo_readsSeen 82 rfl) rfl rfl ?_
    refine fv_aload_n (ft_d o_Mo_readsSeen 83 rfl) rfl rfl ?_
    refine fv_getR (b := 332) (ft_d o_Mo_readsSeen 84 rfl) rfl fl_Mo_84 sh_309 rfl ly_309_44 ?_
    refine fv_iconst (ft_d o_Mo_readsSeen 85 rfl) rfl rfl ?_
    refine fv_ialdj (j := 1) (ft_d o_Mo_readsSeen 86 rfl) rfl sh_332 ⟨by decide, by decide⟩ rfl ?_
    refine fv_imul (ft_d o_Mo_readsSeen 87 rfl) rfl ?_
    refine fv_iadd (ft_d o_Mo_readsSeen 88 rfl) rfl ?_
    refine fv_iconst (ft_d o_Mo_readsSeen 89 rfl) rfl rfl ?_
    refine fv_iadd (ft_d o_Mo_readsSeen 90 rfl) rfl ?_
    refine fv_iload_n (ft_d o_Mo_readsSeen 91 rfl) rfl rfl ?_
    refine fv_iast (ft_d o_Mo_readsSeen 92 rfl) rfl sh_332 w.1 ?_
    have w := w.2
    generalize eh6 : ft_hs h5 332 (ft_add (ft_add 190 (ft_mul 2 (h5 332 1))) 1).toNat z9 = h6
    have w := w h6 eh6.symm
    refine fv_aload_n (ft_d o_Mo_readsSeen 93 rfl) rfl rfl ?_
    refine fv_getR (b := 332) (ft_d o_Mo_readsSeen 94 rfl) rfl fl_Mo_84 sh_309 rfl ly_309_44 ?_
    refine fv_iconst (ft_d o_Mo_readsSeen 95 rfl) rfl rfl ?_
    refine fv_dup2 (ft_d o_Mo_readsSeen 96 rfl) rfl rfl rfl ?_
    refine fv_ialdj (j := 1) (ft_d o_Mo_readsSeen 97 rfl) rfl sh_332 ⟨by decide, by decide⟩ rfl ?_
    refine fv_iconst (ft_d o_Mo_readsSeen 98 rfl) rfl rfl ?_
    refine fv_iadd (ft_d o_Mo_readsSeen 99 rfl) rfl ?_
    refine fv_iastj (j := 1) (ft_d o_Mo_readsSeen 100 rfl) rfl sh_332 ⟨by decide, by decide⟩ rfl ?_
    generalize eh7 : ft_hs h6 332 1 (ft_add (h6 332 1) 1) = h7
    have w := w h7 eh7.symm
    exact fv_return (ft_d o_Mo_readsSeen 101 rfl) rfl w
  · have w := w.2 c
    exact fv_return (ft_d o_Mo_readsSeen 66 rfl) rfl w
set_option maxRecDepth 20000 in
theorem b_Mo_load_0  {h : ftH} {R : Option ftV → ftH → Prop} 
    (w : (∀ h1 : ftH, h1 = ft_hs h 309 36 0 → (∀ h2 : ftH, h2 = ft_hs h1 309 42 ((-2)) → (∀ h3 : ftH, h3 = ft_hs h2 309 43 0 → ft_V k_Mo_load 18 [some (.inr (.inr 309)), some (.inl 0)] [] h3 R)))) : ft_V k_Mo_load 0 [some (.inr (.inr 309)), none] [] h R := by
  refine fv_aload_n (ft_d o_Mo_load 0 rfl) rfl rfl ?_
  refine fv_iconst (ft_d o_Mo_load 1 rfl) rfl rfl ?_
  refine fv_putI (ft_d o_Mo_load 2 rfl) rfl fl_Mo_379 rfl rfl sh_309 rfl ?_
  generalize eh1 : ft_hs h 309 36 0 = h1
  have w := w h1 eh1.symm
  refine fv_aload_n (ft_d o_Mo_load 3 rfl) rfl rfl ?_
  refine fv_bipush (ft_d o_Mo_load 4 rfl) rfl rfl ?_
  refine fv_putI (ft_d o_Mo_load 5 rfl) rfl fl_Mo_81 rfl rfl sh_309 rfl ?_
  generalize eh2 : ft_hs h1 309 42 ((-2)) = h2
  have w := w h2 eh2.symm
  refine fv_aload_n (ft_d o_Mo_load 6 rfl) rfl rfl ?_
  refine fv_iconst (ft_d o_Mo_load 7 rfl) rfl rfl ?_
  refine fv_putZ (ft_d o_Mo_load 8 rfl) rfl fl_Mo_414 rfl rfl sh_309 rfl (Or.inl rfl) ?_
  generalize eh3 : ft_hs h2 309 43 0 = h3
  have w := w h3 eh3.symm
  refine fv_iconst (ft_d o_Mo_load 9 rfl) rfl rfl ?_
  refine fv_istore_n (L' := [some (.inr (.inr 309)), some (.inl 0)]) (ft_d o_Mo_load 10 rfl) rfl (Nat.le_of_ble_eq_true rfl) rfl ?_
  exact w
set_option maxRecDepth 20000 in
theorem b_Mo_load_18 {x1 : Int} {h : ftH} {R : Option ftV → ftH → Prop} 
    (w : ((520 ≤ x1 → (∃ R1 : Option ftV → ftH → Prop, ft_C k_Mo_goesOn [.inr (.inr 309)] h R1 ∧ ∀ h1 : ftH, R1 none h1 → (∃ R3 : Option ftV → ftH → Prop, ft_C k_Mo_needsWord [.inr (.inr 309), .inl 0] h1 R3 ∧ ∀ h2 : ftH, R3 none h2 → (∃ R5 : Option ftV → ftH → Prop, ft_C k_Mo_needsNumber [.inr (.inr 309), .inl 1, .inl 40] h2 R5 ∧ ∀ (z7 : Int) (h3 : ftH), ft_in z7 → R5 (some (.inl z7)) h3 → (∀ h4 : ftH, h4 = ft_hs h3 332 3 z7 → (∃ R8 : Option ftV → ftH → Prop, ft_C k_Mo_needsSign [.inr (.inr 309), .inl 59] h4 R8 ∧ ∀ h5 : ftH, R8 none h5 → ft_V k_Mo_load 66 [some (.inr (.inr 309)), none] [] h5 R)))))) ∧ (¬ (520 ≤ x1) → ((0 ≤ x1 ∧ x1 < 520) ∧ (∀ h6 : ftH, h6 = ft_hs h 332 x1.toNat 0 → ft_V k_Mo_load 18 [some (.inr (.inr 309)), some (.inl (ft_add x1 1))] [] h6 R))))) : ft_V k_Mo_load 18 [some (.inr (.inr 309)), some (.inl x1)] [] h R := by
  refine fv_iload_n (ft_d o_Mo_load 11 rfl) rfl rfl ?_
  refine fv_sipush (ft_d o_Mo_load 12 rfl) rfl rfl ?_
  refine fv_icmp_ge (tgt := 38) (ft_d o_Mo_load 13 rfl) rfl rfl (fun c => ?_) (fun c => ?_)
  · have w := w.1 c
    refine fv_aload_n (ft_d o_Mo_load 21 rfl) rfl rfl ?_
    obtain ⟨R1, c2, w⟩ := w
    refine fv_callv (st := []) rfl rfl (ft_mm (pre := [.inr (.inr 309)]) rfl) (ft_rnV (K' := k_Mo_goesOn) (As := []) (ft_d o_Mo_load 22 rfl) ml_Mo_420 li_Mo_goesOn.1 li_Mo_goesOn.2 lw_Mo_goesOn ⟨rfl, rfl, Nat.le_of_ble_eq_true rfl, Nat.le_of_ble_eq_true rfl⟩ sh_309 rfl rfl rfl rfl (Nat.le_of_ble_eq_true rfl) c2) (fun h1 hw => ?_)
    have w := w h1 hw
    refine fv_aload_n (ft_d o_Mo_load 23 rfl) rfl rfl ?_
    refine fv_iconst (ft_d o_Mo_load 24 rfl) rfl rfl ?_
    obtain ⟨R3, c4, w⟩ := w
    refine fv_callv (st := []) rfl rfl (ft_mm (pre := [.inl 0, .inr (.inr 309)]) rfl) (ft_rnV (K' := k_Mo_needsWord) (As := [.inl 0]) (ft_d o_Mo_load 25 rfl) ml_Mo_438 li_Mo_needsWord.1 li_Mo_needsWord.2 lw_Mo_needsWord ⟨rfl, rfl, Nat.le_of_ble_eq_true rfl, Nat.le_of_ble_eq_true rfl⟩ sh_309 rfl rfl rfl rfl (Nat.le_of_ble_eq_true rfl) c4) (fun h2 hw => ?_)
    have w := w h2 hw
    refine fv_aload_n (ft_d o_Mo_load 26 rfl) rfl rfl ?_
    refine fv_getR (b := 332) (ft_d o_Mo_load 27 rfl) rfl fl_Mo_84 sh_309 rfl ly_309_44 ?_
    refine fv_iconst (ft_d o_Mo_load 28 rfl) rfl rfl ?_
    refine fv_aload_n (ft_d o_Mo_load 29 rfl) rfl rfl ?_
    refine fv_iconst (ft_d o_Mo_load 30 rfl) rfl rfl ?_
    refine fv_bipush (ft_d o_Mo_load 31 rfl) rfl rfl ?_
    obtain ⟨R5, c6, w⟩ := w
    refine fv_calli (st := [.inl 3, .inr (.inr 332)]) (Or.inl rfl) rfl (ft_mm (pre := [.inl 40, .inl 1, .inr (.inr 309)]) rfl) (ft_rnV (K' := k_Mo_needsNumber) (As := [.inl 1, .inl 40]) (ft_d o_Mo_load 32 rfl) ml_Mo_426 li_Mo_needsNumber.1 li_Mo_needsNumber.2 lw_Mo_needsNumber ⟨rfl, rfl, Nat.le_of_ble_eq_true rfl, Nat.le_of_ble_eq_true rfl⟩ sh_309 rfl rfl rfl rfl (Nat.le_of_ble_eq_true rfl) c6) (fun z7 h3 hz hw => ?_)
    have w := w z7 h3 hz hw
    refine fv_iastj (j := 3) (ft_d o_Mo_load 33 rfl) rfl sh_332 ⟨by decide, by decide⟩ rfl ?_
    generalize eh4 : ft_hs h3 332 3 z7 = h4
    have w := w h4 eh4.symm
    refine fv_aload_n (ft_d o_Mo_load 34 rfl) rfl rfl ?_
    refine fv_bipush (ft_d o_Mo_load 35 rfl) rfl rfl ?_
    obtain ⟨R8, c9, w⟩ := w
    refine fv_callv (st := []) rfl rfl (ft_mm (pre := [.inl 59, .inr (.inr 309)]) rfl) (ft_rnV (K' := k_Mo_needsSign) (As := [.inl 59]) (ft_d o_Mo_load 36 rfl) ml_Mo_429 li_Mo_needsSign.1 li_Mo_needsSign.2 lw_Mo_needsSign ⟨rfl, rfl, Nat.le_of_ble_eq_true rfl, Nat.le_of_ble_eq_true rfl⟩ sh_309 rfl rfl rfl rfl (Nat.le_of_ble_eq_true rfl) c9) (fun h5 hw => ?_)
    have w := w h5 hw
    refine fv_mask (M := [true, false]) rfl ?_
    exact w
  · have w := w.2 c
    refine fv_aload_n (ft_d o_Mo_load 14 rfl) rfl rfl ?_
    refine fv_getR (b := 332) (ft_d o_Mo_load 15 rfl) rfl fl_Mo_84 sh_309 rfl ly_309_44 ?_
    refine fv_iload_n (ft_d o_Mo_load 16 rfl) rfl rfl ?_
    refine fv_iconst (ft_d o_Mo_load 17 rfl) rfl rfl ?_
    refine fv_iast (ft_d o_Mo_load 18 rfl) rfl sh_332 w.1 ?_
    have w := w.2
    generalize eh6 : ft_hs h 332 x1.toNat 0 = h6
    have w := w h6 eh6.symm
    refine fv_iinc (L' := [some (.inr (.inr 309)), some (.inl (ft_add x1 1))]) (ft_d o_Mo_load 19 rfl) rfl rfl (Nat.le_of_ble_eq_true rfl) rfl ?_
    refine fv_goto (pc' := 18) (ft_d o_Mo_load 20 rfl) rfl ?_
    exact w
set_option maxRecDepth 20000 in
theorem b_Mo_load_66  {h : ftH} {R : Option ftV → ftH → Prop} 
    (w : ((¬ (h 309 43 = 0 ∧ h 309 37 = 1 ∧ h 309 39 = (1 : Int)) → ft_V k_Mo_load 81 [some (.inr (.inr 309)), none] [] h R) ∧ (h 309 43 = 0 ∧ h 309 37 = 1 ∧ h 309 39 = (1 : Int) → (∃ R3 : Option ftV → ftH → Prop, ft_C k_Mo_readsRoute [.inr (.inr 309)] h R3 ∧ ∀ h1 : ftH, R3 none h1 → ft_V k_Mo_load 66 [some (.inr (.inr 309)), none] [] h1 R)))) : ft_V k_Mo_load 66 [some (.inr (.inr 309)), none] [] h R := by
  refine fv_aload_n (ft_d o_Mo_load 37 rfl) rfl rfl ?_
  refine fv_iconst (ft_d o_Mo_load 38 rfl) rfl rfl ?_
  refine fv_callif (st := []) (z := (if h 309 43 = 0 ∧ h 309 37 = 1 ∧ h 309 39 = (1 : Int) then 1 else 0)) (Or.inr rfl) rfl (ft_mm (pre := [.inl 1, .inr (.inr 309)]) rfl) (ft_rnV (K' := k_Mo_isWord) (As := [.inl 1]) (ft_d o_Mo_load 39 rfl) ml_Mo_417 li_Mo_isWord.1 li_Mo_isWord.2 lw_Mo_isWord ⟨rfl, rfl, Nat.le_of_ble_eq_true rfl, Nat.le_of_ble_eq_true rfl⟩ sh_309 rfl rfl rfl rfl (Nat.le_of_ble_eq_true rfl) (c_Mo_isWord)) ?_
  refine fv_if_eq (tgt := 81) (ft_d o_Mo_load 40 rfl) rfl rfl (fun c => ?_) (fun c => ?_)
  · have w := w.1 (ft_if0.mp c)
    exact w
  · have w := w.2 (ft_if1.mp c)
    refine fv_aload_n (ft_d o_Mo_load 41 rfl) rfl rfl ?_
    obtain ⟨R3, c4, w⟩ := w
    refine fv_callv (st := []) rfl rfl (ft_mm (pre := [.inr (.inr 309)]) rfl) (ft_rnV (K' := k_Mo_readsRoute) (As := []) (ft_d o_Mo_load 42 rfl) ml_Mo_446 li_Mo_readsRoute.1 li_Mo_readsRoute.2 lw_Mo_readsRoute ⟨rfl, rfl, Nat.le_of_ble_eq_true rfl, Nat.le_of_ble_eq_true rfl⟩ sh_309 rfl rfl rfl rfl (Nat.le_of_ble_eq_true rfl) c4) (fun h1 hw => ?_)
    have w := w h1 hw
    refine fv_goto (pc' := 66) (ft_d o_Mo_load 43 rfl) rfl ?_
    exact w
set_option maxRecDepth 20000 in
theorem b_Mo_load_81  {h : ftH} {R : Option ftV → ftH → Prop} 
    (w : ((¬ (h 309 43 = 0 ∧ h 309 37 = 1 ∧ h 309 39 = (3 : Int)) → ((¬ (h 309 43 = 0) → ft_V k_Mo_load 114 [some (.inr (.inr 309)), none] [] h R) ∧ (h 309 43 = 0 → ((h 309 37 = 0 → ft_V k_Mo_load 114 [some (.inr (.inr 309)), none] [] h R) ∧ (¬ (h 309 37 = 0) → (∃ R3 : Option ftV → ftH → Prop, ft_C k_Mo_fails [.inr (.inr 309)] h R3 ∧ ∀ h1 : ftH, R3 none h1 → ft_V k_Mo_load 114 [some (.inr (.inr 309)), none] [] h1 R)))))) ∧ (h 309 43 = 0 ∧ h 309 37 = 1 ∧ h 309 39 = (3 : Int) → (∃ R5 : Option ftV → ftH → Prop, ft_C k_Mo_readsSeen [.inr (.inr 309)] h R5 ∧ ∀ h2 : ftH, R5 none h2 → ft_V k_Mo_load 81 [some (.inr (.inr 309)), none] [] h2 R)))) : ft_V k_Mo_load 81 [some (.inr (.inr 309)), none] [] h R := by
  refine fv_aload_n (ft_d o_Mo_load 44 rfl) rfl rfl ?_
  refine fv_iconst (ft_d o_Mo_load 45 rfl) rfl rfl ?_
  refine fv_callif (st := []) (z := (if h 309 43 = 0 ∧ h 309 37 = 1 ∧ h 309 39 = (3 : Int) then 1 else 0)) (Or.inr rfl) rfl (ft_mm (pre := [.inl 3, .inr (.inr 309)]) rfl) (ft_rnV (K' := k_Mo_isWord) (As := [.inl 3]) (ft_d o_Mo_load 46 rfl) ml_Mo_417 li_Mo_isWord.1 li_Mo_isWord.2 lw_Mo_isWord ⟨rfl, rfl, Nat.le_of_ble_eq_true rfl, Nat.le_of_ble_eq_true rfl⟩ sh_309 rfl rfl rfl rfl (Nat.le_of_ble_eq_true rfl) (c_Mo_isWord)) ?_
  refine fv_if_eq (tgt := 96) (ft_d o_Mo_load 47 rfl) rfl rfl (fun c => ?_) (fun c => ?_)
  · have w := w.1 (ft_if0.mp c)
    refine fv_aload_n (ft_d o_Mo_load 51 rfl) rfl rfl ?_
    refine fv_getI (ft_d o_Mo_load 52 rfl) rfl fl_Mo_414 sh_309 rfl ?_
    refine fv_if_ne (tgt := 114) (ft_d o_Mo_load 53 rfl) rfl rfl (fun c => ?_) (fun c => ?_)
    · have w := w.1 c
      exact w
    · have w := w.2 c
      refine fv_aload_n (ft_d o_Mo_load 54 rfl) rfl rfl ?_
      refine fv_getI (ft_d o_Mo_load 55 rfl) rfl fl_Mo_391 sh_309 rfl ?_
      refine fv_if_eq (tgt := 114) (ft_d o_Mo_load 56 rfl) rfl rfl (fun c => ?_) (fun c => ?_)
      · have w := w.1 c
        exact w
      · have w := w.2 c
        refine fv_aload_n (ft_d o_Mo_load 57 rfl) rfl rfl ?_
        obtain ⟨R3, c4, w⟩ := w
        refine fv_callv (st := []) rfl rfl (ft_mm (pre := [.inr (.inr 309)]) rfl) (ft_rnV (K' := k_Mo_fails) (As := []) (ft_d o_Mo_load 58 rfl) ml_Mo_423 li_Mo_fails.1 li_Mo_fails.2 lw_Mo_fails ⟨rfl, rfl, Nat.le_of_ble_eq_true rfl, Nat.le_of_ble_eq_true rfl⟩ sh_309 rfl rfl rfl rfl (Nat.le_of_ble_eq_true rfl) c4) (fun h1 hw => ?_)
        have w := w h1 hw
        exact w
  · have w := w.2 (ft_if1.mp c)
    refine fv_aload_n (ft_d o_Mo_load 48 rfl) rfl rfl ?_
    obtain ⟨R5, c6, w⟩ := w
    refine fv_callv (st := []) rfl rfl (ft_mm (pre := [.inr (.inr 309)]) rfl) (ft_rnV (K' := k_Mo_readsSeen) (As := []) (ft_d o_Mo_load 49 rfl) ml_Mo_449 li_Mo_readsSeen.1 li_Mo_readsSeen.2 lw_Mo_readsSeen ⟨rfl, rfl, Nat.le_of_ble_eq_true rfl, Nat.le_of_ble_eq_true rfl⟩ sh_309 rfl rfl rfl rfl (Nat.le_of_ble_eq_true rfl) c6) (fun h2 hw => ?_)
    have w := w h2 hw
    refine fv_goto (pc' := 81) (ft_d o_Mo_load 50 rfl) rfl ?_
    exact w
set_option maxRecDepth 20000 in
theorem b_Mo_load_114  {h : ftH} {R : Option ftV → ftH → Prop} 
    (w : (∀ h1 : ftH, h1 = ft_hs h 309 34 0 → ((h1 309 43 = 0 → ft_V k_Mo_load 130 [some (.inr (.inr 309)), some (.inl 0)] [] h1 R) ∧ (¬ (h1 309 43 = 0) → R (some (.inl ((-1)))) h1)))) : ft_V k_Mo_load 114 [some (.inr (.inr 309)), none] [] h R := by
  refine fv_aload_n (ft_d o_Mo_load 59 rfl) rfl rfl ?_
  refine fv_iconst (ft_d o_Mo_load 60 rfl) rfl rfl ?_
  refine fv_putI (ft_d o_Mo_load 61 rfl) rfl fl_Mo_376 rfl rfl sh_309 rfl ?_
  generalize eh1 : ft_hs h 309 34 0 = h1
  have w := w h1 eh1.symm
  refine fv_aload_n (ft_d o_Mo_load 62 rfl) rfl rfl ?_
  refine fv_getI (ft_d o_Mo_load 63 rfl) rfl fl_Mo_414 sh_309 rfl ?_
  refine fv_if_eq (tgt := 128) (ft_d o_Mo_load 64 rfl) rfl rfl (fun c => ?_) (fun c => ?_)
  · have w := w.1 c
    refine fv_iconst (ft_d o_Mo_load 67 rfl) rfl rfl ?_
    refine fv_istore_n (L' := [some (.inr (.inr 309)), some (.inl 0)]) (ft_d o_Mo_load 68 rfl) rfl (Nat.le_of_ble_eq_true rfl) rfl ?_
    exact w
  · have w := w.2 c
    refine fv_iconst (ft_d o_Mo_load 65 rfl) rfl rfl ?_
    exact fv_ireturn (ft_d o_Mo_load 66 rfl) rfl w
set_option maxRecDepth 20000 in
theorem b_Mo_load_130 {x1 : Int} {h : ftH} {R : Option ftV → ftH → Prop} 
    (w : ((520 ≤ x1 → (∀ h1 : ftH, h1 = ft_hs h 310 0 0 → ft_V k_Mo_load 181 [some (.inr (.inr 309)), some (.inl 0)] [] h1 R)) ∧ (¬ (520 ≤ x1) → ((x1 < 10 → ft_V k_Mo_load 155 [some (.inr (.inr 309)), some (.inl x1)] [.inl x1, .inr (.inr 310)] h R) ∧ (¬ (x1 < 10) → ((x1 < 190 → ft_V k_Mo_load 165 [some (.inr (.inr 309)), some (.inl x1)] [.inl 0, .inl x1, .inr (.inr 310)] h R) ∧ (¬ (x1 < 190) → ft_V k_Mo_load 155 [some (.inr (.inr 309)), some (.inl x1)] [.inl x1, .inr (.inr 310)] h R))))))) : ft_V k_Mo_load 130 [some (.inr (.inr 309)), some (.inl x1)] [] h R := by
  refine fv_iload_n (ft_d o_Mo_load 69 rfl) rfl rfl ?_
  refine fv_sipush (ft_d o_Mo_load 70 rfl) rfl rfl ?_
  refine fv_icmp_ge (tgt := 172) (ft_d o_Mo_load 71 rfl) rfl rfl (fun c => ?_) (fun c => ?_)
  · have w := w.1 c
    refine fv_aload_n (ft_d o_Mo_load 90 rfl) rfl rfl ?_
    refine fv_getR (b := 310) (ft_d o_Mo_load 91 rfl) rfl fl_Mo_13 sh_309 rfl ly_309_1 ?_
    refine fv_iconst (ft_d o_Mo_load 92 rfl) rfl rfl ?_
    refine fv_iconst (ft_d o_Mo_load 93 rfl) rfl rfl ?_
    refine fv_iastj (j := 0) (ft_d o_Mo_load 94 rfl) rfl sh_310 ⟨by decide, by decide⟩ rfl ?_
    generalize eh1 : ft_hs h 310 0 0 = h1
    have w := w h1 eh1.symm
    refine fv_iconst (ft_d o_Mo_load 95 rfl) rfl rfl ?_
    refine fv_istore_n (L' := [some (.inr (.inr 309)), some (.inl 0)]) (ft_d o_Mo_load 96 rfl) rfl (Nat.le_of_ble_eq_true rfl) rfl ?_
    exact w
  · have w := w.2 c
    refine fv_aload_n (ft_d o_Mo_load 72 rfl) rfl rfl ?_
    refine fv_getR (b := 310) (ft_d o_Mo_load 73 rfl) rfl fl_Mo_13 sh_309 rfl ly_309_1 ?_
    refine fv_iload_n (ft_d o_Mo_load 74 rfl) rfl rfl ?_
    refine fv_iload_n (ft_d o_Mo_load 75 rfl) rfl rfl ?_
    refine fv_bipush (ft_d o_Mo_load 76 rfl) rfl rfl ?_
    refine fv_icmp_lt (tgt := 155) (ft_d o_Mo_load 77 rfl) rfl rfl (fun c => ?_) (fun c => ?_)
    · have w := w.1 c
      exact w
    · have w := w.2 c
      refine fv_iload_n (ft_d o_Mo_load 78 rfl) rfl rfl ?_
      refine fv_sipush (ft_d o_Mo_load 79 rfl) rfl rfl ?_
      refine fv_icmp_lt (tgt := 164) (ft_d o_Mo_load 80 rfl) rfl rfl (fun c => ?_) (fun c => ?_)
      · have w := w.1 c
        refine fv_iconst (ft_d o_Mo_load 86 rfl) rfl rfl ?_
        exact w
      · have w := w.2 c
        exact w
set_option maxRecDepth 20000 in
theorem b_Mo_load_155 {x1 : Int} {q0 : Nat} {y1 : Int} {h : ftH} {R : Option ftV → ftH → Prop} (hq0 : ft_sh q0 = some (.inr (0, ft_ln q0)))
    (w : ((0 ≤ x1 ∧ x1 < 520) ∧ ft_V k_Mo_load 165 [some (.inr (.inr 309)), some (.inl x1)] [.inl (h 332 x1.toNat), .inl y1, .inr (.inr q0)] h R)) : ft_V k_Mo_load 155 [some (.inr (.inr 309)), some (.inl x1)] [.inl y1, .inr (.inr q0)] h R := by
  refine fv_aload_n (ft_d o_Mo_load 81 rfl) rfl rfl ?_
  refine fv_getR (b := 332) (ft_d o_Mo_load 82 rfl) rfl fl_Mo_84 sh_309 rfl ly_309_44 ?_
  refine fv_iload_n (ft_d o_Mo_load 83 rfl) rfl rfl ?_
  refine fv_iald (ft_d o_Mo_load 84 rfl) rfl sh_332 w.1 ?_
  have w := w.2
  refine fv_goto (pc' := 165) (ft_d o_Mo_load 85 rfl) rfl ?_
  exact w
set_option maxRecDepth 20000 in
theorem b_Mo_load_165 {x1 : Int} {q0 : Nat} {y1 : Int} {y2 : Int} {h : ftH} {R : Option ftV → ftH → Prop} (hq0 : ft_sh q0 = some (.inr (0, ft_ln q0)))
    (w : ((0 ≤ y1 ∧ y1 < (ft_ln q0)) ∧ (∀ h1 : ftH, h1 = ft_hs h q0 y1.toNat y2 → ft_V k_Mo_load 130 [some (.inr (.inr 309)), some (.inl (ft_add x1 1))] [] h1 R))) : ft_V k_Mo_load 165 [some (.inr (.inr 309)), some (.inl x1)] [.inl y2, .inl y1, .inr (.inr q0)] h R := by
  refine fv_iast (ft_d o_Mo_load 87 rfl) rfl hq0 w.1 ?_
  have w := w.2
  generalize eh1 : ft_hs h q0 y1.toNat y2 = h1
  have w := w h1 eh1.symm
  refine fv_iinc (L' := [some (.inr (.inr 309)), some (.inl (ft_add x1 1))]) (ft_d o_Mo_load 88 rfl) rfl rfl (Nat.le_of_ble_eq_true rfl) rfl ?_
  refine fv_goto (pc' := 130) (ft_d o_Mo_load 89 rfl) rfl ?_
  exact w
set_option maxRecDepth 20000 in
theorem b_Mo_load_181 {x1 : Int} {h : ftH} {R : Option ftV → ftH → Prop} 
    (w : ((h 332 0 ≤ x1 → (∀ h1 : ftH, h1 = ft_hs h 309 4 0 → (∀ h2 : ftH, h2 = ft_hs h1 309 20 0 → R (some (.inl (h2 310 0))) h2))) ∧ (¬ (h 332 0 ≤ x1) → ((0 ≤ ft_add 10 (ft_mul 3 x1) ∧ ft_add 10 (ft_mul 3 x1) < 520) ∧ ((0 ≤ ft_add (ft_add 10 (ft_mul 3 x1)) 1 ∧ ft_add (ft_add 10 (ft_mul 3 x1)) 1 < 520) ∧ ((0 ≤ ft_add (ft_add 10 (ft_mul 3 x1)) 2 ∧ ft_add (ft_add 10 (ft_mul 3 x1)) 2 < 520) ∧ (∃ R1 : Option ftV → ftH → Prop, ft_C k_Mo_putsIn [.inr (.inr 309), .inl 10, .inl (h 310 0), .inl (h 332 (ft_add 10 (ft_mul 3 x1)).toNat), .inl (h 332 (ft_add (ft_add 10 (ft_mul 3 x1)) 1).toNat), .inl (h 332 (ft_add (ft_add 10 (ft_mul 3 x1)) 2).toNat)] h R1 ∧ ∀ h3 : ftH, R1 none h3 → (∀ h4 : ftH, h4 = ft_hs h3 310 0 (ft_add (h3 310 0) 1) → ft_V k_Mo_load 181 [some (.inr (.inr 309)), some (.inl (ft_add x1 1))] [] h4 R)))))))) : ft_V k_Mo_load 181 [some (.inr (.inr 309)), some (.inl x1)] [] h R := by
  refine fv_iload_n (ft_d o_Mo_load 97 rfl) rfl rfl ?_
  refine fv_aload_n (ft_d o_Mo_load 98 rfl) rfl rfl ?_
  refine fv_getR (b := 332) (ft_d o_Mo_load 99 rfl) rfl fl_Mo_84 sh_309 rfl ly_309_44 ?_
  refine fv_iconst (ft_d o_Mo_load 100 rfl) rfl rfl ?_
  refine fv_ialdj (j := 0) (ft_d o_Mo_load 101 rfl) rfl sh_332 ⟨by decide, by decide⟩ rfl ?_
  refine fv_icmp_ge (tgt := 256) (ft_d o_Mo_load 102 rfl) rfl rfl (fun c => ?_) (fun c => ?_)
  · have w := w.1 c
    refine fv_aload_n (ft_d o_Mo_load 148 rfl) rfl rfl ?_
    refine fv_iconst (ft_d o_Mo_load 149 rfl) rfl rfl ?_
    refine fv_putI (ft_d o_Mo_load 150 rfl) rfl fl_Mo_87 rfl rfl sh_309 rfl ?_
    generalize eh1 : ft_hs h 309 4 0 = h1
    have w := w h1 eh1.symm
    refine fv_aload_n (ft_d o_Mo_load 151 rfl) rfl rfl ?_
    refine fv_iconst (ft_d o_Mo_load 152 rfl) rfl rfl ?_
    refine fv_putZ (ft_d o_Mo_load 153 rfl) rfl fl_Mo_90 rfl rfl sh_309 rfl (Or.inl rfl) ?_
    generalize eh2 : ft_hs h1 309 20 0 = h2
    have w := w h2 eh2.symm
    refine fv_aload_n (ft_d o_Mo_load 154 rfl) rfl rfl ?_
    refine fv_getR (b := 310) (ft_d o_Mo_load 155 rfl) rfl fl_Mo_13 sh_309 rfl ly_309_1 ?_
    refine fv_iconst (ft_d o_Mo_load 156 rfl) rfl rfl ?_
    refine fv_ialdj (j := 0) (ft_d o_Mo_load 157 rfl) rfl sh_310 ⟨by decide, by decide⟩ rfl ?_
    exact fv_ireturn (ft_d o_Mo_load 158 rfl) rfl w
  · have w := w.2 c
    refine fv_aload_n (ft_d o_Mo_load 103 rfl) rfl rfl ?_
    refine fv_bipush (ft_d o_Mo_load 104 rfl) rfl rfl ?_
    refine fv_aload_n (ft_d o_Mo_load 105 rfl) rfl rfl ?_
    refine fv_getR (b := 310) (ft_d o_Mo_load 106 rfl) rfl fl_Mo_13 sh_309 rfl ly_309_1 ?_
    refine fv_iconst (ft_d o_Mo_load 107 rfl) rfl rfl ?_
    refine fv_ialdj (j := 0) (ft_d o_Mo_load 108 rfl) rfl sh_310 ⟨by decide, by decide⟩ rfl ?_
    refine fv_aload_n (ft_d o_Mo_load 109 rfl) rfl rfl ?_
    refine fv_getR (b := 332) (ft_d o_Mo_load 110 rfl) rfl fl_Mo_84 sh_309 rfl ly_309_44 ?_
    refine fv_bipush (ft_d o_Mo_load 111 rfl) rfl rfl ?_
    refine fv_iconst (ft_d o_Mo_load 112 rfl) rfl rfl ?_
    refine fv_iload_n (ft_d o_Mo_load 113 rfl) rfl rfl ?_
    refine fv_imul (ft_d o_Mo_load 114 rfl) rfl ?_
    refine fv_iadd (ft_d o_Mo_load 115 rfl) rfl ?_
    refine fv_iald (ft_d o_Mo_load 116 rfl) rfl sh_332 w.1 ?_
    have w := w.2
    refine fv_aload_n (ft_d o_Mo_load 117 rfl) rfl rfl ?_
    refine fv_getR (b := 332) (ft_d o_Mo_load 118 rfl) rfl fl_Mo_84 sh_309 rfl ly_309_44 ?_
    refine fv_bipush (ft_d o_Mo_load 119 rfl) rfl rfl ?_
    refine fv_iconst (ft_d o_Mo_load 120 rfl) rfl rfl ?_
    refine fv_iload_n (ft_d o_Mo_load 121 rfl) rfl rfl ?_
    refine fv_imul (ft_d o_Mo_load 122 rfl) rfl ?_
    refine fv_iadd (ft_d o_Mo_load 123 rfl) rfl ?_
    refine fv_iconst (ft_d o_Mo_load 124 rfl) rfl rfl ?_
    refine fv_iadd (ft_d o_Mo_load 125 rfl) rfl ?_
    refine fv_iald (ft_d o_Mo_load 126 rfl) rfl sh_332 w.1 ?_
    have w := w.2
    refine fv_aload_n (ft_d o_Mo_load 127 rfl) rfl rfl ?_
    refine fv_getR (b := 332) (ft_d o_Mo_load 128 rfl) rfl fl_Mo_84 sh_309 rfl ly_309_44 ?_
    refine fv_bipush (ft_d o_Mo_load 129 rfl) rfl rfl ?_
    refine fv_iconst (ft_d o_Mo_load 130 rfl) rfl rfl ?_
    refine fv_iload_n (ft_d o_Mo_load 131 rfl) rfl rfl ?_
    refine fv_imul (ft_d o_Mo_load 132 rfl) rfl ?_
    refine fv_iadd (ft_d o_Mo_load 133 rfl) rfl ?_
    refine fv_iconst (ft_d o_Mo_load 134 rfl) rfl rfl ?_
    refine fv_iadd (ft_d o_Mo_load 135 rfl) rfl ?_
    refine fv_iald (ft_d o_Mo_load 136 rfl) rfl sh_332 w.1 ?_
    have w := w.2
    obtain ⟨R1, c2, w⟩ := w
    refine fv_callv (st := []) rfl rfl (ft_mm (pre := [.inl (h 332 (ft_add (ft_add 10 (ft_mul 3 x1)) 2).toNat), .inl (h 332 (ft_add (ft_add 10 (ft_mul 3 x1)) 1).toNat), .inl (h 332 (ft_add 10 (ft_mul 3 x1)).toNat), .inl (h 310 0), .inl 10, .inr (.inr 309)]) rfl) (ft_rnV (K' := k_Mo_putsIn) (As := [.inl 10, .inl (h 310 0), .inl (h 332 (ft_add 10 (ft_mul 3 x1)).toNat), .inl (h 332 (ft_add (ft_add 10 (ft_mul 3 x1)) 1).toNat), .inl (h 332 (ft_add (ft_add 10 (ft_mul 3 x1)) 2).toNat)]) (ft_d o_Mo_load 137 rfl) ml_Mo_165 li_Mo_putsIn.1 li_Mo_putsIn.2 lw_Mo_putsIn ⟨rfl, rfl, Nat.le_of_ble_eq_true rfl, Nat.le_of_ble_eq_true rfl⟩ sh_309 rfl rfl rfl rfl (Nat.le_of_ble_eq_true rfl) c2) (fun h3 hw => ?_)
    have w := w h3 hw
    refine fv_aload_n (ft_d o_Mo_load 138 rfl) rfl rfl ?_
    refine fv_getR (b := 310) (ft_d o_Mo_load 139 rfl) rfl fl_Mo_13 sh_309 rfl ly_309_1 ?_
    refine fv_iconst (ft_d o_Mo_load 140 rfl) rfl rfl ?_
    refine fv_dup2 (ft_d o_Mo_load 141 rfl) rfl rfl rfl ?_
    refine fv_ialdj (j := 0) (ft_d o_Mo_load 142 rfl) rfl sh_310 ⟨by decide, by decide⟩ rfl ?_
    refine fv_iconst (ft_d o_Mo_load 143 rfl) rfl rfl ?_
    refine fv_iadd (ft_d o_Mo_load 144 rfl) rfl ?_
    refine fv_iastj (j := 0) (ft_d o_Mo_load 145 rfl) rfl sh_310 ⟨by decide, by decide⟩ rfl ?_
    generalize eh4 : ft_hs h3 310 0 (ft_add (h3 310 0) 1) = h4
    have w := w h4 eh4.symm
    refine fv_iinc (L' := [some (.inr (.inr 309)), some (.inl (ft_add x1 1))]) (ft_d o_Mo_load 146 rfl) rfl rfl (Nat.le_of_ble_eq_true rfl) rfl ?_
    refine fv_goto (pc' := 181) (ft_d o_Mo_load 147 rfl) rfl ?_
    exact w
set_option maxRecDepth 20000 in
theorem b_Mo_errorPosition_0  {h : ftH} {R : Option ftV → ftH → Prop} 
    (w : R (some (.inl (h 309 42))) h) : ft_V k_Mo_errorPosition 0 [some (.inr (.inr 309))] [] h R := by
  refine fv_aload_n (ft_d o_Mo_errorPosition 0 rfl) rfl rfl ?_
  refine fv_getI (ft_d o_Mo_errorPosition 1 rfl) rfl fl_Mo_81 sh_309 rfl ?_
  exact fv_ireturn (ft_d o_Mo_errorPosition 2 rfl) rfl w
