/-! printed by wip/whole/gen/gen10.py: what must hold at each cut point -/
set_option maxRecDepth 20000 in
theorem b_Ta_addFour_0 {x1 : Int} {h : ftH} {R : Option ftV → ftH → Prop} 
    (w : ft_V k_Ta_addFour 3 [some (.inr (.inr 113)), some (.inl x1), some (.inl 24)] [] h R) : ft_V k_Ta_addFour 0 [some (.inr (.inr 113)), some (.inl x1), none] [] h R := by
  refine fv_bipush (ft_d o_Ta_addFour 0 rfl) rfl rfl ?_
  refine fv_istore_n (L' := [some (.inr (.inr 113)), some (.inl x1), some (.inl 24)]) (ft_d o_Ta_addFour 1 rfl) rfl (Nat.le_of_ble_eq_true rfl) rfl ?_
  exact w
set_option maxRecDepth 20000 in
theorem b_Ta_addFour_3 {x1 : Int} {x2 : Int} {h : ftH} {R : Option ftV → ftH → Prop} 
    (w : ((x2 < 0 → R none h) ∧ (¬ (x2 < 0) → ((2200 ≤ h 113 1 → R none h) ∧ (¬ (2200 ≤ h 113 1) → ((0 ≤ h 113 1 ∧ h 113 1 < 2200) ∧ (∀ h1 : ftH, h1 = ft_hs h 114 (h 113 1).toNat (ft_i2b (ft_i2b (ft_ushr x1 x2))) → (∀ h2 : ftH, h2 = ft_hs h1 113 1 (ft_add (h1 113 1) 1) → ft_V k_Ta_addFour 3 [some (.inr (.inr 113)), some (.inl x1), some (.inl (ft_add x2 (-8)))] [] h2 R)))))))) : ft_V k_Ta_addFour 3 [some (.inr (.inr 113)), some (.inl x1), some (.inl x2)] [] h R := by
  refine fv_iload_n (ft_d o_Ta_addFour 2 rfl) rfl rfl ?_
  refine fv_if_lt (tgt := 46) (ft_d o_Ta_addFour 3 rfl) rfl rfl (fun c => ?_) (fun c => ?_)
  · have w := w.1 c
    exact fv_return (ft_d o_Ta_addFour 25 rfl) rfl w
  · have w := w.2 c
    refine fv_aload_n (ft_d o_Ta_addFour 4 rfl) rfl rfl ?_
    refine fv_getI (ft_d o_Ta_addFour 5 rfl) rfl fl_Ta_15 sh_113 rfl ?_
    refine fv_sipush (ft_d o_Ta_addFour 6 rfl) rfl rfl ?_
    refine fv_icmp_ge (tgt := 46) (ft_d o_Ta_addFour 7 rfl) rfl rfl (fun c => ?_) (fun c => ?_)
    · have w := w.1 c
      exact fv_return (ft_d o_Ta_addFour 25 rfl) rfl w
    · have w := w.2 c
      refine fv_aload_n (ft_d o_Ta_addFour 8 rfl) rfl rfl ?_
      refine fv_getR (b := 114) (ft_d o_Ta_addFour 9 rfl) rfl fl_Ta_9 sh_113 rfl ly_113_0 ?_
      refine fv_aload_n (ft_d o_Ta_addFour 10 rfl) rfl rfl ?_
      refine fv_getI (ft_d o_Ta_addFour 11 rfl) rfl fl_Ta_15 sh_113 rfl ?_
      refine fv_iload_n (ft_d o_Ta_addFour 12 rfl) rfl rfl ?_
      refine fv_iload_n (ft_d o_Ta_addFour 13 rfl) rfl rfl ?_
      refine fv_iushr (ft_d o_Ta_addFour 14 rfl) rfl ?_
      refine fv_i2b (ft_d o_Ta_addFour 15 rfl) rfl ?_
      refine fv_bast (ft_d o_Ta_addFour 16 rfl) rfl sh_114 w.1 ?_
      have w := w.2
      generalize eh1 : ft_hs h 114 (h 113 1).toNat (ft_i2b (ft_i2b (ft_ushr x1 x2))) = h1
      have w := w h1 eh1.symm
      refine fv_aload_n (ft_d o_Ta_addFour 17 rfl) rfl rfl ?_
      refine fv_dup (ft_d o_Ta_addFour 18 rfl) rfl rfl ?_
      refine fv_getI (ft_d o_Ta_addFour 19 rfl) rfl fl_Ta_15 sh_113 rfl ?_
      refine fv_iconst (ft_d o_Ta_addFour 20 rfl) rfl rfl ?_
      refine fv_iadd (ft_d o_Ta_addFour 21 rfl) rfl ?_
      refine fv_putI (ft_d o_Ta_addFour 22 rfl) rfl fl_Ta_15 rfl rfl sh_113 rfl ?_
      generalize eh2 : ft_hs h1 113 1 (ft_add (h1 113 1) 1) = h2
      have w := w h2 eh2.symm
      refine fv_iinc (L' := [some (.inr (.inr 113)), some (.inl x1), some (.inl (ft_add x2 (-8)))]) (ft_d o_Ta_addFour 23 rfl) rfl rfl (Nat.le_of_ble_eq_true rfl) rfl ?_
      refine fv_goto (pc' := 3) (ft_d o_Ta_addFour 24 rfl) rfl ?_
      exact w
set_option maxRecDepth 20000 in
theorem b_Ta_readInto_0 {r1 : Nat} {h : ftH} {R : Option ftV → ftH → Prop} (hr1 : ft_sh r1 = some (.inl 6))
    (w : (∀ h1 : ftH, h1 = ft_hs h 113 3 0 → (∃ R1 : Option ftV → ftH → Prop, ft_C k_Ta_step [.inr (.inr 113)] h1 R1 ∧ ∀ h2 : ftH, R1 none h2 → (∃ R3 : Option ftV → ftH → Prop, ft_C k_Ta_take [.inr (.inr 113), .inl 3] h2 R3 ∧ ∀ (z5 : Int) (h3 : ftH), ft_in z5 → R3 (some (.inl z5)) h3 → ((z5 = 0 → R (some (.inl 0)) h3) ∧ (¬ (z5 = 0) → ((h3 113 4 = 2 ∧ (1 : Int) ≤ h3 113 5 ∧ h3 113 5 ≤ (40 : Int) → (∀ h4 : ftH, h4 = ft_hs h3 r1 0 (h3 113 5) → (∃ R8 : Option ftV → ftH → Prop, ft_C k_Ta_step [.inr (.inr 113)] h4 R8 ∧ ∀ h5 : ftH, R8 none h5 → (∃ R10 : Option ftV → ftH → Prop, ft_C k_Ta_take [.inr (.inr 113), .inl 59] h5 R10 ∧ ∀ (z12 : Int) (h6 : ftH), ft_in z12 → R10 (some (.inl z12)) h6 → ((¬ (z12 = 0) → ft_V k_Ta_readInto 54 [some (.inr (.inr 113)), some (.inr (.inr r1)), some (.inl 0)] [] h6 R) ∧ (z12 = 0 → R (some (.inl 0)) h6)))))) ∧ (¬ (h3 113 4 = 2 ∧ (1 : Int) ≤ h3 113 5 ∧ h3 113 5 ≤ (40 : Int)) → R (some (.inl 0)) h3)))))))) : ft_V k_Ta_readInto 0 [some (.inr (.inr 113)), some (.inr (.inr r1)), none] [] h R := by
  refine fv_aload_n (ft_d o_Ta_readInto 0 rfl) rfl rfl ?_
  refine fv_iconst (ft_d o_Ta_readInto 1 rfl) rfl rfl ?_
  refine fv_putI (ft_d o_Ta_readInto 2 rfl) rfl fl_Ta_19 rfl rfl sh_113 rfl ?_
  generalize eh1 : ft_hs h 113 3 0 = h1
  have w := w h1 eh1.symm
  refine fv_aload_n (ft_d o_Ta_readInto 3 rfl) rfl rfl ?_
  obtain ⟨R1, c2, w⟩ := w
  refine fv_callv (st := []) rfl rfl (ft_mm (pre := [.inr (.inr 113)]) rfl) (ft_rnV (K' := k_Ta_step) (As := []) (ft_d o_Ta_readInto 4 rfl) ml_Ta_22 li_Ta_step.1 li_Ta_step.2 lw_Ta_step ⟨rfl, rfl, Nat.le_of_ble_eq_true rfl, Nat.le_of_ble_eq_true rfl⟩ sh_113 rfl rfl rfl rfl (Nat.le_of_ble_eq_true rfl) c2) (fun h2 hw => ?_)
  have w := w h2 hw
  refine fv_aload_n (ft_d o_Ta_readInto 5 rfl) rfl rfl ?_
  refine fv_iconst (ft_d o_Ta_readInto 6 rfl) rfl rfl ?_
  obtain ⟨R3, c4, w⟩ := w
  refine fv_calli (st := []) (Or.inr rfl) rfl (ft_mm (pre := [.inl 3, .inr (.inr 113)]) rfl) (ft_rnV (K' := k_Ta_take) (As := [.inl 3]) (ft_d o_Ta_readInto 7 rfl) ml_Ta_25 li_Ta_take.1 li_Ta_take.2 lw_Ta_take ⟨rfl, rfl, Nat.le_of_ble_eq_true rfl, Nat.le_of_ble_eq_true rfl⟩ sh_113 rfl rfl rfl rfl (Nat.le_of_ble_eq_true rfl) c4) (fun z5 h3 hz hw => ?_)
  have w := w z5 h3 hz hw
  refine fv_if_eq (tgt := 27) (ft_d o_Ta_readInto 8 rfl) rfl rfl (fun c => ?_) (fun c => ?_)
  · have w := w.1 c
    refine fv_iconst (ft_d o_Ta_readInto 14 rfl) rfl rfl ?_
    exact fv_zreturn (ft_d o_Ta_readInto 15 rfl) rfl (Or.inl rfl) w
  · have w := w.2 c
    refine fv_aload_n (ft_d o_Ta_readInto 9 rfl) rfl rfl ?_
    refine fv_iconst (ft_d o_Ta_readInto 10 rfl) rfl rfl ?_
    refine fv_bipush (ft_d o_Ta_readInto 11 rfl) rfl rfl ?_
    refine fv_callif (st := []) (z := (if h3 113 4 = 2 ∧ (1 : Int) ≤ h3 113 5 ∧ h3 113 5 ≤ (40 : Int) then 1 else 0)) (Or.inr rfl) rfl (ft_mm (pre := [.inl 40, .inl 1, .inr (.inr 113)]) rfl) (ft_rnV (K' := k_Ta_isNumber) (As := [.inl 1, .inl 40]) (ft_d o_Ta_readInto 12 rfl) ml_Ta_29 li_Ta_isNumber.1 li_Ta_isNumber.2 lw_Ta_isNumber ⟨rfl, rfl, Nat.le_of_ble_eq_true rfl, Nat.le_of_ble_eq_true rfl⟩ sh_113 rfl rfl rfl rfl (Nat.le_of_ble_eq_true rfl) (c_Ta_isNumber)) ?_
    refine fv_if_ne (tgt := 29) (ft_d o_Ta_readInto 13 rfl) rfl rfl (fun c => ?_) (fun c => ?_)
    · have w := w.1 (ft_if1.mp c)
      refine fv_aload_n (ft_d o_Ta_readInto 16 rfl) rfl rfl ?_
      refine fv_aload_n (ft_d o_Ta_readInto 17 rfl) rfl rfl ?_
      refine fv_getI (ft_d o_Ta_readInto 18 rfl) rfl fl_Ta_33 sh_113 rfl ?_
      refine fv_putI (ft_d o_Ta_readInto 19 rfl) rfl fl_Ta_36 rfl rfl hr1 rfl ?_
      generalize eh4 : ft_hs h3 r1 0 (h3 113 5) = h4
      have w := w h4 eh4.symm
      refine fv_aload_n (ft_d o_Ta_readInto 20 rfl) rfl rfl ?_
      obtain ⟨R8, c9, w⟩ := w
      refine fv_callv (st := []) rfl rfl (ft_mm (pre := [.inr (.inr 113)]) rfl) (ft_rnV (K' := k_Ta_step) (As := []) (ft_d o_Ta_readInto 21 rfl) ml_Ta_22 li_Ta_step.1 li_Ta_step.2 lw_Ta_step ⟨rfl, rfl, Nat.le_of_ble_eq_true rfl, Nat.le_of_ble_eq_true rfl⟩ sh_113 rfl rfl rfl rfl (Nat.le_of_ble_eq_true rfl) c9) (fun h5 hw => ?_)
      have w := w h5 hw
      refine fv_aload_n (ft_d o_Ta_readInto 22 rfl) rfl rfl ?_
      refine fv_bipush (ft_d o_Ta_readInto 23 rfl) rfl rfl ?_
      obtain ⟨R10, c11, w⟩ := w
      refine fv_calli (st := []) (Or.inr rfl) rfl (ft_mm (pre := [.inl 59, .inr (.inr 113)]) rfl) (ft_rnV (K' := k_Ta_take) (As := [.inl 59]) (ft_d o_Ta_readInto 24 rfl) ml_Ta_25 li_Ta_take.1 li_Ta_take.2 lw_Ta_take ⟨rfl, rfl, Nat.le_of_ble_eq_true rfl, Nat.le_of_ble_eq_true rfl⟩ sh_113 rfl rfl rfl rfl (Nat.le_of_ble_eq_true rfl) c11) (fun z12 h6 hz hw => ?_)
      have w := w z12 h6 hz hw
      refine fv_if_ne (tgt := 52) (ft_d o_Ta_readInto 25 rfl) rfl rfl (fun c => ?_) (fun c => ?_)
      · have w := w.1 c
        refine fv_iconst (ft_d o_Ta_readInto 28 rfl) rfl rfl ?_
        refine fv_istore_n (L' := [some (.inr (.inr 113)), some (.inr (.inr r1)), some (.inl 0)]) (ft_d o_Ta_readInto 29 rfl) rfl (Nat.le_of_ble_eq_true rfl) rfl ?_
        exact w
      · have w := w.2 c
        refine fv_iconst (ft_d o_Ta_readInto 26 rfl) rfl rfl ?_
        exact fv_zreturn (ft_d o_Ta_readInto 27 rfl) rfl (Or.inl rfl) w
    · have w := w.2 (ft_if0.mp c)
      refine fv_iconst (ft_d o_Ta_readInto 14 rfl) rfl rfl ?_
      exact fv_zreturn (ft_d o_Ta_readInto 15 rfl) rfl (Or.inl rfl) w
set_option maxRecDepth 20000 in
theorem b_Ta_readInto_54 {r1 : Nat} {x2 : Int} {h : ftH} {R : Option ftV → ftH → Prop} (hr1 : ft_sh r1 = some (.inl 6))
    (w : ((60 < x2 → ft_V k_Ta_readInto 89 [some (.inr (.inr 113)), some (.inr (.inr r1)), some (.inl 0)] [] h R) ∧ (¬ (60 < x2) → ((¬ (h 113 4 = 4) → ft_V k_Ta_readInto 89 [some (.inr (.inr 113)), some (.inr (.inr r1)), some (.inl 0)] [] h R) ∧ (h 113 4 = 4 → (∃ R1 : Option ftV → ftH → Prop, ft_C k_Ta_readRoute [.inr (.inr 113), .inr (.inr (r1 + 1))] h R1 ∧ ∀ (z3 : Int) (h1 : ftH), ft_in z3 → R1 (some (.inl z3)) h1 → ((¬ (z3 = 0) → ft_V k_Ta_readInto 54 [some (.inr (.inr 113)), some (.inr (.inr r1)), some (.inl (ft_add x2 1))] [] h1 R) ∧ (z3 = 0 → R (some (.inl 0)) h1)))))))) : ft_V k_Ta_readInto 54 [some (.inr (.inr 113)), some (.inr (.inr r1)), some (.inl x2)] [] h R := by
  refine fv_iload_n (ft_d o_Ta_readInto 30 rfl) rfl rfl ?_
  refine fv_bipush (ft_d o_Ta_readInto 31 rfl) rfl rfl ?_
  refine fv_icmp_gt (tgt := 87) (ft_d o_Ta_readInto 32 rfl) rfl rfl (fun c => ?_) (fun c => ?_)
  · have w := w.1 c
    refine fv_iconst (ft_d o_Ta_readInto 46 rfl) rfl rfl ?_
    refine fv_istore_n (L' := [some (.inr (.inr 113)), some (.inr (.inr r1)), some (.inl 0)]) (ft_d o_Ta_readInto 47 rfl) rfl (Nat.le_of_ble_eq_true rfl) rfl ?_
    exact w
  · have w := w.2 c
    refine fv_aload_n (ft_d o_Ta_readInto 33 rfl) rfl rfl ?_
    refine fv_getI (ft_d o_Ta_readInto 34 rfl) rfl fl_Ta_41 sh_113 rfl ?_
    refine fv_iconst (ft_d o_Ta_readInto 35 rfl) rfl rfl ?_
    refine fv_icmp_ne (tgt := 87) (ft_d o_Ta_readInto 36 rfl) rfl rfl (fun c => ?_) (fun c => ?_)
    · have w := w.1 c
      refine fv_iconst (ft_d o_Ta_readInto 46 rfl) rfl rfl ?_
      refine fv_istore_n (L' := [some (.inr (.inr 113)), some (.inr (.inr r1)), some (.inl 0)]) (ft_d o_Ta_readInto 47 rfl) rfl (Nat.le_of_ble_eq_true rfl) rfl ?_
      exact w
    · have w := w.2 c
      refine fv_aload_n (ft_d o_Ta_readInto 37 rfl) rfl rfl ?_
      refine fv_aload_n (ft_d o_Ta_readInto 38 rfl) rfl rfl ?_
      refine fv_getR (b := r1 + 1) (ft_d o_Ta_readInto 39 rfl) rfl fl_Ta_44 hr1 rfl (lyc_6_1 hr1) ?_
      obtain ⟨R1, c2, w⟩ := w
      refine fv_calli (st := []) (Or.inr rfl) rfl (ft_mm (pre := [.inr (.inr (r1 + 1)), .inr (.inr 113)]) rfl) (ft_rnV (K' := k_Ta_readRoute) (As := [.inr (.inr (r1 + 1))]) (ft_d o_Ta_readInto 40 rfl) ml_Ta_48 li_Ta_readRoute.1 li_Ta_readRoute.2 lw_Ta_readRoute ⟨rfl, rfl, Nat.le_of_ble_eq_true rfl, Nat.le_of_ble_eq_true rfl⟩ sh_113 rfl rfl rfl rfl (Nat.le_of_ble_eq_true rfl) c2) (fun z3 h1 hz hw => ?_)
      have w := w z3 h1 hz hw
      refine fv_if_ne (tgt := 81) (ft_d o_Ta_readInto 41 rfl) rfl rfl (fun c => ?_) (fun c => ?_)
      · have w := w.1 c
        refine fv_iinc (L' := [some (.inr (.inr 113)), some (.inr (.inr r1)), some (.inl (ft_add x2 1))]) (ft_d o_Ta_readInto 44 rfl) rfl rfl (Nat.le_of_ble_eq_true rfl) rfl ?_
        refine fv_goto (pc' := 54) (ft_d o_Ta_readInto 45 rfl) rfl ?_
        exact w
      · have w := w.2 c
        refine fv_iconst (ft_d o_Ta_readInto 42 rfl) rfl rfl ?_
        exact fv_zreturn (ft_d o_Ta_readInto 43 rfl) rfl (Or.inl rfl) w
set_option maxRecDepth 20000 in
theorem b_Ta_readInto_89 {r1 : Nat} {x2 : Int} {h : ftH} {R : Option ftV → ftH → Prop} (hr1 : ft_sh r1 = some (.inl 6))
    (w : ((40 < x2 → ((¬ (h 113 4 = 0) → R (some (.inl 0)) h) ∧ (h 113 4 = 0 → R (some (.inl 1)) h))) ∧ (¬ (40 < x2) → ((¬ (h 113 4 = 6) → ((¬ (h 113 4 = 0) → R (some (.inl 0)) h) ∧ (h 113 4 = 0 → R (some (.inl 1)) h))) ∧ (h 113 4 = 6 → (∃ R1 : Option ftV → ftH → Prop, ft_C k_Ta_readSeen [.inr (.inr 113), .inr (.inr (r1 + 7))] h R1 ∧ ∀ (z3 : Int) (h1 : ftH), ft_in z3 → R1 (some (.inl z3)) h1 → ((¬ (z3 = 0) → ft_V k_Ta_readInto 89 [some (.inr (.inr 113)), some (.inr (.inr r1)), some (.inl (ft_add x2 1))] [] h1 R) ∧ (z3 = 0 → R (some (.inl 0)) h1)))))))) : ft_V k_Ta_readInto 89 [some (.inr (.inr 113)), some (.inr (.inr r1)), some (.inl x2)] [] h R := by
  refine fv_iload_n (ft_d o_Ta_readInto 48 rfl) rfl rfl ?_
  refine fv_bipush (ft_d o_Ta_readInto 49 rfl) rfl rfl ?_
  refine fv_icmp_gt (tgt := 123) (ft_d o_Ta_readInto 50 rfl) rfl rfl (fun c => ?_) (fun c => ?_)
  · have w := w.1 c
    refine fv_aload_n (ft_d o_Ta_readInto 64 rfl) rfl rfl ?_
    refine fv_getI (ft_d o_Ta_readInto 65 rfl) rfl fl_Ta_41 sh_113 rfl ?_
    refine fv_if_ne (tgt := 134) (ft_d o_Ta_readInto 66 rfl) rfl rfl (fun c => ?_) (fun c => ?_)
    · have w := w.1 c
      refine fv_iconst (ft_d o_Ta_readInto 69 rfl) rfl rfl ?_
      exact fv_zreturn (ft_d o_Ta_readInto 70 rfl) rfl (Or.inl rfl) w
    · have w := w.2 c
      refine fv_iconst (ft_d o_Ta_readInto 67 rfl) rfl rfl ?_
      refine fv_goto (pc' := 135) (ft_d o_Ta_readInto 68 rfl) rfl ?_
      exact fv_zreturn (ft_d o_Ta_readInto 70 rfl) rfl (Or.inr rfl) w
  · have w := w.2 c
    refine fv_aload_n (ft_d o_Ta_readInto 51 rfl) rfl rfl ?_
    refine fv_getI (ft_d o_Ta_readInto 52 rfl) rfl fl_Ta_41 sh_113 rfl ?_
    refine fv_bipush (ft_d o_Ta_readInto 53 rfl) rfl rfl ?_
    refine fv_icmp_ne (tgt := 123) (ft_d o_Ta_readInto 54 rfl) rfl rfl (fun c => ?_) (fun c => ?_)
    · have w := w.1 c
      refine fv_aload_n (ft_d o_Ta_readInto 64 rfl) rfl rfl ?_
      refine fv_getI (ft_d o_Ta_readInto 65 rfl) rfl fl_Ta_41 sh_113 rfl ?_
      refine fv_if_ne (tgt := 134) (ft_d o_Ta_readInto 66 rfl) rfl rfl (fun c => ?_) (fun c => ?_)
      · have w := w.1 c
        refine fv_iconst (ft_d o_Ta_readInto 69 rfl) rfl rfl ?_
        exact fv_zreturn (ft_d o_Ta_readInto 70 rfl) rfl (Or.inl rfl) w
      · have w := w.2 c
        refine fv_iconst (ft_d o_Ta_readInto 67 rfl) rfl rfl ?_
        refine fv_goto (pc' := 135) (ft_d o_Ta_readInto 68 rfl) rfl ?_
        exact fv_zreturn (ft_d o_Ta_readInto 70 rfl) rfl (Or.inr rfl) w
    · have w := w.2 c
      refine fv_aload_n (ft_d o_Ta_readInto 55 rfl) rfl rfl ?_
      refine fv_aload_n (ft_d o_Ta_readInto 56 rfl) rfl rfl ?_
      refine fv_getR (b := r1 + 7) (ft_d o_Ta_readInto 57 rfl) rfl fl_Ta_52 hr1 rfl (lyc_6_3 hr1) ?_
      obtain ⟨R1, c2, w⟩ := w
      refine fv_calli (st := []) (Or.inr rfl) rfl (ft_mm (pre := [.inr (.inr (r1 + 7)), .inr (.inr 113)]) rfl) (ft_rnV (K' := k_Ta_readSeen) (As := [.inr (.inr (r1 + 7))]) (ft_d o_Ta_readInto 58 rfl) ml_Ta_56 li_Ta_readSeen.1 li_Ta_readSeen.2 lw_Ta_readSeen ⟨rfl, rfl, Nat.le_of_ble_eq_true rfl, Nat.le_of_ble_eq_true rfl⟩ sh_113 rfl rfl rfl rfl (Nat.le_of_ble_eq_true rfl) c2) (fun z3 h1 hz hw => ?_)
      have w := w z3 h1 hz hw
      refine fv_if_ne (tgt := 117) (ft_d o_Ta_readInto 59 rfl) rfl rfl (fun c => ?_) (fun c => ?_)
      · have w := w.1 c
        refine fv_iinc (L' := [some (.inr (.inr 113)), some (.inr (.inr r1)), some (.inl (ft_add x2 1))]) (ft_d o_Ta_readInto 62 rfl) rfl rfl (Nat.le_of_ble_eq_true rfl) rfl ?_
        refine fv_goto (pc' := 89) (ft_d o_Ta_readInto 63 rfl) rfl ?_
        exact w
      · have w := w.2 c
        refine fv_iconst (ft_d o_Ta_readInto 60 rfl) rfl rfl ?_
        exact fv_zreturn (ft_d o_Ta_readInto 61 rfl) rfl (Or.inl rfl) w
set_option maxRecDepth 20000 in
theorem b_Ta_readRoute_0 {r1 : Nat} {h : ftH} {R : Option ftV → ftH → Prop} (hr1 : ft_sh r1 = some (.inl 4))
    (w : ((h r1 2 < 60 → (∃ R1 : Option ftV → ftH → Prop, ft_C k_Ta_step [.inr (.inr 113)] h R1 ∧ ∀ h1 : ftH, R1 none h1 → (∃ R3 : Option ftV → ftH → Prop, ft_C k_Ta_readAddress [.inr (.inr 113)] h1 R3 ∧ ∀ (z5 : Int) (h2 : ftH), ft_in z5 → R3 (some (.inl z5)) h2 → ((¬ (z5 = 0) → (∃ R6 : Option ftV → ftH → Prop, ft_C k_Ta_step [.inr (.inr 113)] h2 R6 ∧ ∀ h3 : ftH, R6 none h3 → (∃ R8 : Option ftV → ftH → Prop, ft_C k_Ta_take [.inr (.inr 113), .inl 47] h3 R8 ∧ ∀ (z10 : Int) (h4 : ftH), ft_in z10 → R8 (some (.inl z10)) h4 → ((z10 = 0 → R (some (.inl 0)) h4) ∧ (¬ (z10 = 0) → ((¬ (h4 113 4 = 2 ∧ (0 : Int) ≤ h4 113 5 ∧ h4 113 5 ≤ (32 : Int)) → R (some (.inl 0)) h4) ∧ (h4 113 4 = 2 ∧ (0 : Int) ≤ h4 113 5 ∧ h4 113 5 ≤ (32 : Int) → (((0 ≤ (h4 113 6) ∧ (h4 113 6) < 4294967296) ∧ (0 ≤ (h4 113 5) ∧ (h4 113 5) ≤ 32)) ∧ (((h4 113 6) % pSz (h4 113 5) = 0 → (((0 ≤ (h4 113 6) ∧ (h4 113 6) < 4294967296) ∧ (0 ≤ (h4 113 5) ∧ (h4 113 5) ≤ 32)) ∧ (∀ n17 : Int, n17 = 64 * (h4 113 6) + (h4 113 5) → (∃ R18 : Option ftV → ftH → Prop, ft_C k_PS_indexOf [.inr (.inr r1), .inr (.inl n17)] h4 R18 ∧ ∀ (z20 : Int) (h5 : ftH), ft_in z20 → R18 (some (.inl z20)) h5 → ((z20 < 0 → (∃ R21 : Option ftV → ftH → Prop, ft_C k_Ta_step [.inr (.inr 113)] h5 R21 ∧ ∀ h6 : ftH, R21 none h6 → (∃ R23 : Option ftV → ftH → Prop, ft_C k_Ta_take [.inr (.inr 113), .inl 5] h6 R23 ∧ ∀ (z25 : Int) (h7 : ftH), ft_in z25 → R23 (some (.inl z25)) h7 → ((z25 = 0 → R (some (.inl 0)) h7) ∧ (¬ (z25 = 0) → ((h7 113 4 = 2 ∧ (0 : Int) ≤ h7 113 5 ∧ h7 113 5 ≤ (15 : Int) → (∃ R28 : Option ftV → ftH → Prop, ft_C k_PS_put [.inr (.inr r1), .inr (.inl n17), .inl (h7 113 5)] h7 R28 ∧ ∀ h8 : ftH, R28 none h8 → (∃ R30 : Option ftV → ftH → Prop, ft_C k_Ta_step [.inr (.inr 113)] h8 R30 ∧ ∀ h9 : ftH, R30 none h9 → (∃ R32 : Option ftV → ftH → Prop, ft_C k_Ta_take [.inr (.inr 113), .inl 59] h9 R32 ∧ ∀ (z34 : Int) (h10 : ftH), ft_in z34 → R32 (some (.inl z34)) h10 → ((z34 = 0 ∨ z34 = 1) ∧ R (some (.inl z34)) h10))))) ∧ (¬ (h7 113 4 = 2 ∧ (0 : Int) ≤ h7 113 5 ∧ h7 113 5 ≤ (15 : Int)) → R (some (.inl 0)) h7))))))) ∧ (¬ (z20 < 0) → R (some (.inl 0)) h5)))))) ∧ (¬ ((h4 113 6) % pSz (h4 113 5) = 0) → R (some (.inl 0)) h4)))))))))) ∧ (z5 = 0 → R (some (.inl 0)) h2))))) ∧ (¬ (h r1 2 < 60) → R (some (.inl 0)) h))) : ft_V k_Ta_readRoute 0 [some (.inr (.inr 113)), some (.inr (.inr r1)), none, none] [] h R := by
  refine fv_aload_n (ft_d o_Ta_readRoute 0 rfl) rfl rfl ?_
  refine fv_getI (ft_d o_Ta_readRoute 1 rfl) rfl fl_Ta_60 hr1 rfl ?_
  refine fv_bipush (ft_d o_Ta_readRoute 2 rfl) rfl rfl ?_
  refine fv_icmp_lt (tgt := 11) (ft_d o_Ta_readRoute 3 rfl) rfl rfl (fun c => ?_) (fun c => ?_)
  · have w := w.1 c
    refine fv_aload_n (ft_d o_Ta_readRoute 6 rfl) rfl rfl ?_
    obtain ⟨R1, c2, w⟩ := w
    refine fv_callv (st := []) rfl rfl (ft_mm (pre := [.inr (.inr 113)]) rfl) (ft_rnV (K' := k_Ta_step) (As := []) (ft_d o_Ta_readRoute 7 rfl) ml_Ta_22 li_Ta_step.1 li_Ta_step.2 lw_Ta_step ⟨rfl, rfl, Nat.le_of_ble_eq_true rfl, Nat.le_of_ble_eq_true rfl⟩ sh_113 rfl rfl rfl rfl (Nat.le_of_ble_eq_true rfl) c2) (fun h1 hw => ?_)
    have w := w h1 hw
    refine fv_aload_n (ft_d o_Ta_readRoute 8 rfl) rfl rfl ?_
    obtain ⟨R3, c4, w⟩ := w
    refine fv_calli (st := []) (Or.inr rfl) rfl (ft_mm (pre := [.inr (.inr 113)]) rfl) (ft_rnV (K' := k_Ta_readAddress) (As := []) (ft_d o_Ta_readRoute 9 rfl) ml_Ta_63 li_Ta_readAddress.1 li_Ta_readAddress.2 lw_Ta_readAddress ⟨rfl, rfl, Nat.le_of_ble_eq_true rfl, Nat.le_of_ble_eq_true rfl⟩ sh_113 rfl rfl rfl rfl (Nat.le_of_ble_eq_true rfl) c4) (fun z5 h2 hz hw => ?_)
    have w := w z5 h2 hz hw
    refine fv_if_ne (tgt := 24) (ft_d o_Ta_readRoute 10 rfl) rfl rfl (fun c => ?_) (fun c => ?_)
    · have w := w.1 c
      refine fv_aload_n (ft_d o_Ta_readRoute 13 rfl) rfl rfl ?_
      obtain ⟨R6, c7, w⟩ := w
      refine fv_callv (st := []) rfl rfl (ft_mm (pre := [.inr (.inr 113)]) rfl) (ft_rnV (K' := k_Ta_step) (As := []) (ft_d o_Ta_readRoute 14 rfl) ml_Ta_22 li_Ta_step.1 li_Ta_step.2 lw_Ta_step ⟨rfl, rfl, Nat.le_of_ble_eq_true rfl, Nat.le_of_ble_eq_true rfl⟩ sh_113 rfl rfl rfl rfl (Nat.le_of_ble_eq_true rfl) c7) (fun h3 hw => ?_)
      have w := w h3 hw
      refine fv_aload_n (ft_d o_Ta_readRoute 15 rfl) rfl rfl ?_
      refine fv_bipush (ft_d o_Ta_readRoute 16 rfl) rfl rfl ?_
      obtain ⟨R8, c9, w⟩ := w
      refine fv_calli (st := []) (Or.inr rfl) rfl (ft_mm (pre := [.inl 47, .inr (.inr 113)]) rfl) (ft_rnV (K' := k_Ta_take) (As := [.inl 47]) (ft_d o_Ta_readRoute 17 rfl) ml_Ta_25 li_Ta_take.1 li_Ta_take.2 lw_Ta_take ⟨rfl, rfl, Nat.le_of_ble_eq_true rfl, Nat.le_of_ble_eq_true rfl⟩ sh_113 rfl rfl rfl rfl (Nat.le_of_ble_eq_true rfl) c9) (fun z10 h4 hz hw => ?_)
      have w := w z10 h4 hz hw
      refine fv_if_eq (tgt := 61) (ft_d o_Ta_readRoute 18 rfl) rfl rfl (fun c => ?_) (fun c => ?_)
      · have w := w.1 c
        refine fv_iconst (ft_d o_Ta_readRoute 30 rfl) rfl rfl ?_
        exact fv_zreturn (ft_d o_Ta_readRoute 31 rfl) rfl (Or.inl rfl) w
      · have w := w.2 c
        refine fv_aload_n (ft_d o_Ta_readRoute 19 rfl) rfl rfl ?_
        refine fv_iconst (ft_d o_Ta_readRoute 20 rfl) rfl rfl ?_
        refine fv_bipush (ft_d o_Ta_readRoute 21 rfl) rfl rfl ?_
        refine fv_callif (st := []) (z := (if h4 113 4 = 2 ∧ (0 : Int) ≤ h4 113 5 ∧ h4 113 5 ≤ (32 : Int) then 1 else 0)) (Or.inr rfl) rfl (ft_mm (pre := [.inl 32, .inl 0, .inr (.inr 113)]) rfl) (ft_rnV (K' := k_Ta_isNumber) (As := [.inl 0, .inl 32]) (ft_d o_Ta_readRoute 22 rfl) ml_Ta_29 li_Ta_isNumber.1 li_Ta_isNumber.2 lw_Ta_isNumber ⟨rfl, rfl, Nat.le_of_ble_eq_true rfl, Nat.le_of_ble_eq_true rfl⟩ sh_113 rfl rfl rfl rfl (Nat.le_of_ble_eq_true rfl) (c_Ta_isNumber)) ?_
        refine fv_if_eq (tgt := 61) (ft_d o_Ta_readRoute 23 rfl) rfl rfl (fun c => ?_) (fun c => ?_)
        · have w := w.1 (ft_if0.mp c)
          refine fv_iconst (ft_d o_Ta_readRoute 30 rfl) rfl rfl ?_
          exact fv_zreturn (ft_d o_Ta_readRoute 31 rfl) rfl (Or.inl rfl) w
        · have w := w.2 (ft_if1.mp c)
          refine fv_aload_n (ft_d o_Ta_readRoute 24 rfl) rfl rfl ?_
          refine fv_getL (ft_d o_Ta_readRoute 25 rfl) rfl fl_Ta_67 sh_113 rfl ?_
          refine fv_aload_n (ft_d o_Ta_readRoute 26 rfl) rfl rfl ?_
          refine fv_getI (ft_d o_Ta_readRoute 27 rfl) rfl fl_Ta_33 sh_113 rfl ?_
          refine fv_callif (st := []) (z := (if (h4 113 6) % pSz (h4 113 5) = 0 then 1 else 0)) (Or.inr rfl) rfl (ft_mm (pre := [.inl (h4 113 5), .inr (.inl (h4 113 6))]) rfl) (ft_rnSN (K' := k_FT_isAligned) (As := [.inr (.inl (h4 113 6)), .inl (h4 113 5)]) (host := "ForwardingTable") (ft_d o_Ta_readRoute 28 rfl) (by decide) lz_FT_isAligned lw_FT_isAligned ⟨rfl, rfl, Nat.le_of_ble_eq_true rfl, Nat.le_of_ble_eq_true rfl⟩ rfl rfl (Nat.le_of_ble_eq_true rfl) (c_FT_isAligned w.1)) ?_
          have w := w.2
          refine fv_if_ne (tgt := 63) (ft_d o_Ta_readRoute 29 rfl) rfl rfl (fun c => ?_) (fun c => ?_)
          · have w := w.1 (ft_if1.mp c)
            refine fv_aload_n (ft_d o_Ta_readRoute 32 rfl) rfl rfl ?_
            refine fv_getL (ft_d o_Ta_readRoute 33 rfl) rfl fl_Ta_67 sh_113 rfl ?_
            refine fv_aload_n (ft_d o_Ta_readRoute 34 rfl) rfl rfl ?_
            refine fv_getI (ft_d o_Ta_readRoute 35 rfl) rfl fl_Ta_33 sh_113 rfl ?_
            refine fv_calllf (st := []) (z := 64 * (h4 113 6) + (h4 113 5)) rfl rfl (ft_mm (pre := [.inl (h4 113 5), .inr (.inl (h4 113 6))]) rfl) (ft_rnSN (K' := k_FT_keyOf) (As := [.inr (.inl (h4 113 6)), .inl (h4 113 5)]) (host := "ForwardingTable") (ft_d o_Ta_readRoute 36 rfl) (by decide) lz_FT_keyOf lw_FT_keyOf ⟨rfl, rfl, Nat.le_of_ble_eq_true rfl, Nat.le_of_ble_eq_true rfl⟩ rfl rfl (Nat.le_of_ble_eq_true rfl) (c_FT_keyOf w.1)) ?_
            have w := w.2
            generalize en17 : 64 * (h4 113 6) + (h4 113 5) = n17
            have w := w n17 en17.symm
            refine fv_lstore_n (L' := [some (.inr (.inr 113)), some (.inr (.inr r1)), some (.inr (.inl n17)), none]) (ft_d o_Ta_readRoute 37 rfl) rfl (Nat.le_of_ble_eq_true rfl) rfl ?_
            refine fv_aload_n (ft_d o_Ta_readRoute 38 rfl) rfl rfl ?_
            refine fv_lload_n (ft_d o_Ta_readRoute 39 rfl) rfl rfl ?_
            obtain ⟨R18, c19, w⟩ := w
            refine fv_calli (st := []) (Or.inl rfl) rfl (ft_mm (pre := [.inr (.inl n17), .inr (.inr r1)]) rfl) (ft_rnV (K' := k_PS_indexOf) (As := [.inr (.inl n17)]) (ft_d o_Ta_readRoute 40 rfl) ml_Ta_79 li_PS_indexOf.1 li_PS_indexOf.2 lw_PS_indexOf ⟨rfl, rfl, Nat.le_of_ble_eq_true rfl, Nat.le_of_ble_eq_true rfl⟩ hr1 rfl rfl rfl rfl (Nat.le_of_ble_eq_true rfl) c19) (fun z20 h5 hz hw => ?_)
            have w := w z20 h5 hz hw
            refine fv_if_lt (tgt := 85) (ft_d o_Ta_readRoute 41 rfl) rfl rfl (fun c => ?_) (fun c => ?_)
            · have w := w.1 c
              refine fv_aload_n (ft_d o_Ta_readRoute 44 rfl) rfl rfl ?_
              obtain ⟨R21, c22, w⟩ := w
              refine fv_callv (st := []) rfl rfl (ft_mm (pre := [.inr (.inr 113)]) rfl) (ft_rnV (K' := k_Ta_step) (As := []) (ft_d o_Ta_readRoute 45 rfl) ml_Ta_22 li_Ta_step.1 li_Ta_step.2 lw_Ta_step ⟨rfl, rfl, Nat.le_of_ble_eq_true rfl, Nat.le_of_ble_eq_true rfl⟩ sh_113 rfl rfl rfl rfl (Nat.le_of_ble_eq_true rfl) c22) (fun h6 hw => ?_)
              have w := w h6 hw
              refine fv_aload_n (ft_d o_Ta_readRoute 46 rfl) rfl rfl ?_
              refine fv_iconst (ft_d o_Ta_readRoute 47 rfl) rfl rfl ?_
              obtain ⟨R23, c24, w⟩ := w
              refine fv_calli (st := []) (Or.inr rfl) rfl (ft_mm (pre := [.inl 5, .inr (.inr 113)]) rfl) (ft_rnV (K' := k_Ta_take) (As := [.inl 5]) (ft_d o_Ta_readRoute 48 rfl) ml_Ta_25 li_Ta_take.1 li_Ta_take.2 lw_Ta_take ⟨rfl, rfl, Nat.le_of_ble_eq_true rfl, Nat.le_of_ble_eq_true rfl⟩ sh_113 rfl rfl rfl rfl (Nat.le_of_ble_eq_true rfl) c24) (fun z25 h7 hz hw => ?_)
              have w := w z25 h7 hz hw
              refine fv_if_eq (tgt := 107) (ft_d o_Ta_readRoute 49 rfl) rfl rfl (fun c => ?_) (fun c => ?_)
              · have w := w.1 c
                refine fv_iconst (ft_d o_Ta_readRoute 55 rfl) rfl rfl ?_
                exact fv_zreturn (ft_d o_Ta_readRoute 56 rfl) rfl (Or.inl rfl) w
              · have w := w.2 c
                refine fv_aload_n (ft_d o_Ta_readRoute 50 rfl) rfl rfl ?_
                refine fv_iconst (ft_d o_Ta_readRoute 51 rfl) rfl rfl ?_
                refine fv_bipush (ft_d o_Ta_readRoute 52 rfl) rfl rfl ?_
                refine fv_callif (st := []) (z := (if h7 113 4 = 2 ∧ (0 : Int) ≤ h7 113 5 ∧ h7 113 5 ≤ (15 : Int) then 1 else 0)) (Or.inr rfl) rfl (ft_mm (pre := [.inl 15, .inl 0, .inr (.inr 113)]) rfl) (ft_rnV (K' := k_Ta_isNumber) (As := [.inl 0, .inl 15]) (ft_d o_Ta_readRoute 53 rfl) ml_Ta_29 li_Ta_isNumber.1 li_Ta_isNumber.2 lw_Ta_isNumber ⟨rfl, rfl, Nat.le_of_ble_eq_true rfl, Nat.le_of_ble_eq_true rfl⟩ sh_113 rfl rfl rfl rfl (Nat.le_of_ble_eq_true rfl) (c_Ta_isNumber)) ?_
                refine fv_if_ne (tgt := 109) (ft_d o_Ta_readRoute 54 rfl) rfl rfl (fun c => ?_) (fun c => ?_)
                · have w := w.1 (ft_if1.mp c)
                  refine fv_aload_n (ft_d o_Ta_readRoute 57 rfl) rfl rfl ?_
                  refine fv_lload_n (ft_d o_Ta_readRoute 58 rfl) rfl rfl ?_
                  refine fv_aload_n (ft_d o_Ta_readRoute 59 rfl) rfl rfl ?_
                  refine fv_getI (ft_d o_Ta_readRoute 60 rfl) rfl fl_Ta_33 sh_113 rfl ?_
                  obtain ⟨R28, c29, w⟩ := w
                  refine fv_callv (st := []) rfl rfl (ft_mm (pre := [.inl (h7 113 5), .inr (.inl n17), .inr (.inr r1)]) rfl) (ft_rnV (K' := k_PS_put) (As := [.inr (.inl n17), .inl (h7 113 5)]) (ft_d o_Ta_readRoute 61 rfl) ml_Ta_83 li_PS_put.1 li_PS_put.2 lw_PS_put ⟨rfl, rfl, Nat.le_of_ble_eq_true rfl, Nat.le_of_ble_eq_true rfl⟩ hr1 rfl rfl rfl rfl (Nat.le_of_ble_eq_true rfl) c29) (fun h8 hw => ?_)
                  have w := w h8 hw
                  refine fv_aload_n (ft_d o_Ta_readRoute 62 rfl) rfl rfl ?_
                  obtain ⟨R30, c31, w⟩ := w
                  refine fv_callv (st := []) rfl rfl (ft_mm (pre := [.inr (.inr 113)]) rfl) (ft_rnV (K' := k_Ta_step) (As := []) (ft_d o_Ta_readRoute 63 rfl) ml_Ta_22 li_Ta_step.1 li_Ta_step.2 lw_Ta_step ⟨rfl, rfl, Nat.le_of_ble_eq_true rfl, Nat.le_of_ble_eq_true rfl⟩ sh_113 rfl rfl rfl rfl (Nat.le_of_ble_eq_true rfl) c31) (fun h9 hw => ?_)
                  have w := w h9 hw
                  refine fv_aload_n (ft_d o_Ta_readRoute 64 rfl) rfl rfl ?_
                  refine fv_bipush (ft_d o_Ta_readRoute 65 rfl) rfl rfl ?_
                  obtain ⟨R32, c33, w⟩ := w
                  refine fv_calli (st := []) (Or.inr rfl) rfl (ft_mm (pre := [.inl 59, .inr (.inr 113)]) rfl) (ft_rnV (K' := k_Ta_take) (As := [.inl 59]) (ft_d o_Ta_readRoute 66 rfl) ml_Ta_25 li_Ta_take.1 li_Ta_take.2 lw_Ta_take ⟨rfl, rfl, Nat.le_of_ble_eq_true rfl, Nat.le_of_ble_eq_true rfl⟩ sh_113 rfl rfl rfl rfl (Nat.le_of_ble_eq_true rfl) c33) (fun z34 h10 hz hw => ?_)
                  have w := w z34 h10 hz hw
                  exact fv_zreturn (ft_d o_Ta_readRoute 67 rfl) rfl w.1 w.2
                · have w := w.2 (ft_if0.mp c)
                  refine fv_iconst (ft_d o_Ta_readRoute 55 rfl) rfl rfl ?_
                  exact fv_zreturn (ft_d o_Ta_readRoute 56 rfl) rfl (Or.inl rfl) w
            · have w := w.2 c
              refine fv_iconst (ft_d o_Ta_readRoute 42 rfl) rfl rfl ?_
              exact fv_zreturn (ft_d o_Ta_readRoute 43 rfl) rfl (Or.inl rfl) w
          · have w := w.2 (ft_if0.mp c)
            refine fv_iconst (ft_d o_Ta_readRoute 30 rfl) rfl rfl ?_
            exact fv_zreturn (ft_d o_Ta_readRoute 31 rfl) rfl (Or.inl rfl) w
    · have w := w.2 c
      refine fv_iconst (ft_d o_Ta_readRoute 11 rfl) rfl rfl ?_
      exact fv_zreturn (ft_d o_Ta_readRoute 12 rfl) rfl (Or.inl rfl) w
  · have w := w.2 c
    refine fv_iconst (ft_d o_Ta_readRoute 4 rfl) rfl rfl ?_
    exact fv_zreturn (ft_d o_Ta_readRoute 5 rfl) rfl (Or.inl rfl) w
set_option maxRecDepth 20000 in
theorem b_Ta_readSeen_0 {r1 : Nat} {h : ftH} {R : Option ftV → ftH → Prop} (hr1 : ft_sh r1 = some (.inl 9))
    (w : ((h r1 2 < 40 → (∃ R1 : Option ftV → ftH → Prop, ft_C k_Ta_step [.inr (.inr 113)] h R1 ∧ ∀ h1 : ftH, R1 none h1 → (∃ R3 : Option ftV → ftH → Prop, ft_C k_Ta_readAddress [.inr (.inr 113)] h1 R3 ∧ ∀ (z5 : Int) (h2 : ftH), ft_in z5 → R3 (some (.inl z5)) h2 → ((z5 = 0 → R (some (.inl 0)) h2) ∧ (¬ (z5 = 0) → (∃ R6 : Option ftV → ftH → Prop, ft_C k_TL_indexOf [.inr (.inr r1), .inr (.inl (h2 113 6))] h2 R6 ∧ ∀ (z8 : Int) (h3 : ftH), ft_in z8 → R6 (some (.inl z8)) h3 → ((z8 < 0 → (∃ R9 : Option ftV → ftH → Prop, ft_C k_Ta_step [.inr (.inr 113)] h3 R9 ∧ ∀ h4 : ftH, R9 none h4 → (∃ R11 : Option ftV → ftH → Prop, ft_C k_Ta_take [.inr (.inr 113), .inl 7] h4 R11 ∧ ∀ (z13 : Int) (h5 : ftH), ft_in z13 → R11 (some (.inl z13)) h5 → ((z13 = 0 → R (some (.inl 0)) h5) ∧ (¬ (z13 = 0) → ((h5 113 4 = 2 ∧ (1 : Int) ≤ h5 113 5 ∧ h5 113 5 ≤ (999 : Int) → (∃ R16 : Option ftV → ftH → Prop, ft_C k_TL_see [.inr (.inr r1), .inr (.inl (h5 113 6)), .inl (h5 113 5)] h5 R16 ∧ ∀ h6 : ftH, R16 none h6 → (∃ R18 : Option ftV → ftH → Prop, ft_C k_Ta_step [.inr (.inr 113)] h6 R18 ∧ ∀ h7 : ftH, R18 none h7 → (∃ R20 : Option ftV → ftH → Prop, ft_C k_Ta_take [.inr (.inr 113), .inl 59] h7 R20 ∧ ∀ (z22 : Int) (h8 : ftH), ft_in z22 → R20 (some (.inl z22)) h8 → ((z22 = 0 ∨ z22 = 1) ∧ R (some (.inl z22)) h8))))) ∧ (¬ (h5 113 4 = 2 ∧ (1 : Int) ≤ h5 113 5 ∧ h5 113 5 ≤ (999 : Int)) → R (some (.inl 0)) h5))))))) ∧ (¬ (z8 < 0) → R (some (.inl 0)) h3)))))))) ∧ (¬ (h r1 2 < 40) → R (some (.inl 0)) h))) : ft_V k_Ta_readSeen 0 [some (.inr (.inr 113)), some (.inr (.inr r1))] [] h R := by
  refine fv_aload_n (ft_d o_Ta_readSeen 0 rfl) rfl rfl ?_
  refine fv_getI (ft_d o_Ta_readSeen 1 rfl) rfl fl_Ta_87 hr1 rfl ?_
  refine fv_bipush (ft_d o_Ta_readSeen 2 rfl) rfl rfl ?_
  refine fv_icmp_lt (tgt := 11) (ft_d o_Ta_readSeen 3 rfl) rfl rfl (fun c => ?_) (fun c => ?_)
  · have w := w.1 c
    refine fv_aload_n (ft_d o_Ta_readSeen 6 rfl) rfl rfl ?_
    obtain ⟨R1, c2, w⟩ := w
    refine fv_callv (st := []) rfl rfl (ft_mm (pre := [.inr (.inr 113)]) rfl) (ft_rnV (K' := k_Ta_step) (As := []) (ft_d o_Ta_readSeen 7 rfl) ml_Ta_22 li_Ta_step.1 li_Ta_step.2 lw_Ta_step ⟨rfl, rfl, Nat.le_of_ble_eq_true rfl, Nat.le_of_ble_eq_true rfl⟩ sh_113 rfl rfl rfl rfl (Nat.le_of_ble_eq_true rfl) c2) (fun h1 hw => ?_)
    have w := w h1 hw
    refine fv_aload_n (ft_d o_Ta_readSeen 8 rfl) rfl rfl ?_
    obtain ⟨R3, c4, w⟩ := w
    refine fv_calli (st := []) (Or.inr rfl) rfl (ft_mm (pre := [.inr (.inr 113)]) rfl) (ft_rnV (K' := k_Ta_readAddress) (As := []) (ft_d o_Ta_readSeen 9 rfl) ml_Ta_63 li_Ta_readAddress.1 li_Ta_readAddress.2 lw_Ta_readAddress ⟨rfl, rfl, Nat.le_of_ble_eq_true rfl, Nat.le_of_ble_eq_true rfl⟩ sh_113 rfl rfl rfl rfl (Nat.le_of_ble_eq_true rfl) c4) (fun z5 h2 hz hw => ?_)
    have w := w z5 h2 hz hw
    refine fv_if_eq (tgt := 33) (ft_d o_Ta_readSeen 10 rfl) rfl rfl (fun c => ?_) (fun c => ?_)
    · have w := w.1 c
      refine fv_iconst (ft_d o_Ta_readSeen 16 rfl) rfl rfl ?_
      exact fv_zreturn (ft_d o_Ta_readSeen 17 rfl) rfl (Or.inl rfl) w
    · have w := w.2 c
      refine fv_aload_n (ft_d o_Ta_readSeen 11 rfl) rfl rfl ?_
      refine fv_aload_n (ft_d o_Ta_readSeen 12 rfl) rfl rfl ?_
      refine fv_getL (ft_d o_Ta_readSeen 13 rfl) rfl fl_Ta_67 sh_113 rfl ?_
      obtain ⟨R6, c7, w⟩ := w
      refine fv_calli (st := []) (Or.inl rfl) rfl (ft_mm (pre := [.inr (.inl (h2 113 6)), .inr (.inr r1)]) rfl) (ft_rnV (K' := k_TL_indexOf) (As := [.inr (.inl (h2 113 6))]) (ft_d o_Ta_readSeen 14 rfl) ml_Ta_90 li_TL_indexOf.1 li_TL_indexOf.2 lw_TL_indexOf ⟨rfl, rfl, Nat.le_of_ble_eq_true rfl, Nat.le_of_ble_eq_true rfl⟩ hr1 rfl rfl rfl rfl (Nat.le_of_ble_eq_true rfl) c7) (fun z8 h3 hz hw => ?_)
      have w := w z8 h3 hz hw
      refine fv_if_lt (tgt := 35) (ft_d o_Ta_readSeen 15 rfl) rfl rfl (fun c => ?_) (fun c => ?_)
      · have w := w.1 c
        refine fv_aload_n (ft_d o_Ta_readSeen 18 rfl) rfl rfl ?_
        obtain ⟨R9, c10, w⟩ := w
        refine fv_callv (st := []) rfl rfl (ft_mm (pre := [.inr (.inr 113)]) rfl) (ft_rnV (K' := k_Ta_step) (As := []) (ft_d o_Ta_readSeen 19 rfl) ml_Ta_22 li_Ta_step.1 li_Ta_step.2 lw_Ta_step ⟨rfl, rfl, Nat.le_of_ble_eq_true rfl, Nat.le_of_ble_eq_true rfl⟩ sh_113 rfl rfl rfl rfl (Nat.le_of_ble_eq_true rfl) c10) (fun h4 hw => ?_)
        have w := w h4 hw
        refine fv_aload_n (ft_d o_Ta_readSeen 20 rfl) rfl rfl ?_
        refine fv_bipush (ft_d o_Ta_readSeen 21 rfl) rfl rfl ?_
        obtain ⟨R11, c12, w⟩ := w
        refine fv_calli (st := []) (Or.inr rfl) rfl (ft_mm (pre := [.inl 7, .inr (.inr 113)]) rfl) (ft_rnV (K' := k_Ta_take) (As := [.inl 7]) (ft_d o_Ta_readSeen 22 rfl) ml_Ta_25 li_Ta_take.1 li_Ta_take.2 lw_Ta_take ⟨rfl, rfl, Nat.le_of_ble_eq_true rfl, Nat.le_of_ble_eq_true rfl⟩ sh_113 rfl rfl rfl rfl (Nat.le_of_ble_eq_true rfl) c12) (fun z13 h5 hz hw => ?_)
        have w := w z13 h5 hz hw
        refine fv_if_eq (tgt := 59) (ft_d o_Ta_readSeen 23 rfl) rfl rfl (fun c => ?_) (fun c => ?_)
        · have w := w.1 c
          refine fv_iconst (ft_d o_Ta_readSeen 29 rfl) rfl rfl ?_
          exact fv_zreturn (ft_d o_Ta_readSeen 30 rfl) rfl (Or.inl rfl) w
        · have w := w.2 c
          refine fv_aload_n (ft_d o_Ta_readSeen 24 rfl) rfl rfl ?_
          refine fv_iconst (ft_d o_Ta_readSeen 25 rfl) rfl rfl ?_
          refine fv_sipush (ft_d o_Ta_readSeen 26 rfl) rfl rfl ?_
          refine fv_callif (st := []) (z := (if h5 113 4 = 2 ∧ (1 : Int) ≤ h5 113 5 ∧ h5 113 5 ≤ (999 : Int) then 1 else 0)) (Or.inr rfl) rfl (ft_mm (pre := [.inl 999, .inl 1, .inr (.inr 113)]) rfl) (ft_rnV (K' := k_Ta_isNumber) (As := [.inl 1, .inl 999]) (ft_d o_Ta_readSeen 27 rfl) ml_Ta_29 li_Ta_isNumber.1 li_Ta_isNumber.2 lw_Ta_isNumber ⟨rfl, rfl, Nat.le_of_ble_eq_true rfl, Nat.le_of_ble_eq_true rfl⟩ sh_113 rfl rfl rfl rfl (Nat.le_of_ble_eq_true rfl) (c_Ta_isNumber)) ?_
          refine fv_if_ne (tgt := 61) (ft_d o_Ta_readSeen 28 rfl) rfl rfl (fun c => ?_) (fun c => ?_)
          · have w := w.1 (ft_if1.mp c)
            refine fv_aload_n (ft_d o_Ta_readSeen 31 rfl) rfl rfl ?_
            refine fv_aload_n (ft_d o_Ta_readSeen 32 rfl) rfl rfl ?_
            refine fv_getL (ft_d o_Ta_readSeen 33 rfl) rfl fl_Ta_67 sh_113 rfl ?_
            refine fv_aload_n (ft_d o_Ta_readSeen 34 rfl) rfl rfl ?_
            refine fv_getI (ft_d o_Ta_readSeen 35 rfl) rfl fl_Ta_33 sh_113 rfl ?_
            obtain ⟨R16, c17, w⟩ := w
            refine fv_callv (st := []) rfl rfl (ft_mm (pre := [.inl (h5 113 5), .inr (.inl (h5 113 6)), .inr (.inr r1)]) rfl) (ft_rnV (K' := k_TL_see) (As := [.inr (.inl (h5 113 6)), .inl (h5 113 5)]) (ft_d o_Ta_readSeen 36 rfl) ml_Ta_91 li_TL_see.1 li_TL_see.2 lw_TL_see ⟨rfl, rfl, Nat.le_of_ble_eq_true rfl, Nat.le_of_ble_eq_true rfl⟩ hr1 rfl rfl rfl rfl (Nat.le_of_ble_eq_true rfl) c17) (fun h6 hw => ?_)
            have w := w h6 hw
            refine fv_aload_n (ft_d o_Ta_readSeen 37 rfl) rfl rfl ?_
            obtain ⟨R18, c19, w⟩ := w
            refine fv_callv (st := []) rfl rfl (ft_mm (pre := [.inr (.inr 113)]) rfl) (ft_rnV (K' := k_Ta_step) (As := []) (ft_d o_Ta_readSeen 38 rfl) ml_Ta_22 li_Ta_step.1 li_Ta_step.2 lw_Ta_step ⟨rfl, rfl, Nat.le_of_ble_eq_true rfl, Nat.le_of_ble_eq_true rfl⟩ sh_113 rfl rfl rfl rfl (Nat.le_of_ble_eq_true rfl) c19) (fun h7 hw => ?_)
            have w := w h7 hw
            refine fv_aload_n (ft_d o_Ta_readSeen 39 rfl) rfl rfl ?_
            refine fv_bipush (ft_d o_Ta_readSeen 40 rfl) rfl rfl ?_
            obtain ⟨R20, c21, w⟩ := w
            refine fv_calli (st := []) (Or.inr rfl) rfl (ft_mm (pre := [.inl 59, .inr (.inr 113)]) rfl) (ft_rnV (K' := k_Ta_take) (As := [.inl 59]) (ft_d o_Ta_readSeen 41 rfl) ml_Ta_25 li_Ta_take.1 li_Ta_take.2 lw_Ta_take ⟨rfl, rfl, Nat.le_of_ble_eq_true rfl, Nat.le_of_ble_eq_true rfl⟩ sh_113 rfl rfl rfl rfl (Nat.le_of_ble_eq_true rfl) c21) (fun z22 h8 hz hw => ?_)
            have w := w z22 h8 hz hw
            exact fv_zreturn (ft_d o_Ta_readSeen 42 rfl) rfl w.1 w.2
          · have w := w.2 (ft_if0.mp c)
            refine fv_iconst (ft_d o_Ta_readSeen 29 rfl) rfl rfl ?_
            exact fv_zreturn (ft_d o_Ta_readSeen 30 rfl) rfl (Or.inl rfl) w
      · have w := w.2 c
        refine fv_iconst (ft_d o_Ta_readSeen 16 rfl) rfl rfl ?_
        exact fv_zreturn (ft_d o_Ta_readSeen 17 rfl) rfl (Or.inl rfl) w
  · have w := w.2 c
    refine fv_iconst (ft_d o_Ta_readSeen 4 rfl) rfl rfl ?_
    exact fv_zreturn (ft_d o_Ta_readSeen 5 rfl) rfl (Or.inl rfl) w
set_option maxRecDepth 20000 in
theorem b_Ta_readAddress_0  {h : ftH} {R : Option ftV → ftH → Prop} 
    (w : (∀ h1 : ftH, h1 = ft_hs h 113 6 0 → ft_V k_Ta_readAddress 7 [some (.inr (.inr 113)), some (.inl 0)] [] h1 R)) : ft_V k_Ta_readAddress 0 [some (.inr (.inr 113)), none] [] h R := by
  refine fv_aload_n (ft_d o_Ta_readAddress 0 rfl) rfl rfl ?_
  refine fv_lconst (z := 0) (ft_d o_Ta_readAddress 1 rfl) rfl rfl ?_
  refine fv_putL (ft_d o_Ta_readAddress 2 rfl) rfl fl_Ta_67 rfl rfl sh_113 rfl ?_
  generalize eh1 : ft_hs h 113 6 0 = h1
  have w := w h1 eh1.symm
  refine fv_iconst (ft_d o_Ta_readAddress 3 rfl) rfl rfl ?_
  refine fv_istore_n (L' := [some (.inr (.inr 113)), some (.inl 0)]) (ft_d o_Ta_readAddress 4 rfl) rfl (Nat.le_of_ble_eq_true rfl) rfl ?_
  exact w
set_option maxRecDepth 20000 in
theorem b_Ta_readAddress_7 {x1 : Int} {h : ftH} {R : Option ftV → ftH → Prop} 
    (w : ((4 ≤ x1 → R (some (.inl 1)) h) ∧ (¬ (4 ≤ x1) → ((x1 ≤ 0 → ((h 113 4 = 2 ∧ (0 : Int) ≤ h 113 5 ∧ h 113 5 ≤ (255 : Int) → (∀ h1 : ftH, h1 = ft_hs h 113 6 (ft_orL (ft_shlL (h 113 6) 8) (h 113 5)) → ft_V k_Ta_readAddress 7 [some (.inr (.inr 113)), some (.inl (ft_add x1 1))] [] h1 R)) ∧ (¬ (h 113 4 = 2 ∧ (0 : Int) ≤ h 113 5 ∧ h 113 5 ≤ (255 : Int)) → R (some (.inl 0)) h))) ∧ (¬ (x1 ≤ 0) → (∃ R3 : Option ftV → ftH → Prop, ft_C k_Ta_step [.inr (.inr 113)] h R3 ∧ ∀ h2 : ftH, R3 none h2 → ((h2 113 4 = 46 → (∃ R5 : Option ftV → ftH → Prop, ft_C k_Ta_step [.inr (.inr 113)] h2 R5 ∧ ∀ h3 : ftH, R5 none h3 → ((h3 113 4 = 2 ∧ (0 : Int) ≤ h3 113 5 ∧ h3 113 5 ≤ (255 : Int) → (∀ h4 : ftH, h4 = ft_hs h3 113 6 (ft_orL (ft_shlL (h3 113 6) 8) (h3 113 5)) → ft_V k_Ta_readAddress 7 [some (.inr (.inr 113)), some (.inl (ft_add x1 1))] [] h4 R)) ∧ (¬ (h3 113 4 = 2 ∧ (0 : Int) ≤ h3 113 5 ∧ h3 113 5 ≤ (255 : Int)) → R (some (.inl 0)) h3)))) ∧ (¬ (h2 113 4 = 46) → R (some (.inl 0)) h2)))))))) : ft_V k_Ta_readAddress 7 [some (.inr (.inr 113)), some (.inl x1)] [] h R := by
  refine fv_iload_n (ft_d o_Ta_readAddress 5 rfl) rfl rfl ?_
  refine fv_iconst (ft_d o_Ta_readAddress 6 rfl) rfl rfl ?_
  refine fv_icmp_ge (tgt := 71) (ft_d o_Ta_readAddress 7 rfl) rfl rfl (fun c => ?_) (fun c => ?_)
  · have w := w.1 c
    refine fv_iconst (ft_d o_Ta_readAddress 39 rfl) rfl rfl ?_
    exact fv_zreturn (ft_d o_Ta_readAddress 40 rfl) rfl (Or.inr rfl) w
  · have w := w.2 c
    refine fv_iload_n (ft_d o_Ta_readAddress 8 rfl) rfl rfl ?_
    refine fv_if_le (tgt := 35) (ft_d o_Ta_readAddress 9 rfl) rfl rfl (fun c => ?_) (fun c => ?_)
    · have w := w.1 c
      refine fv_aload_n (ft_d o_Ta_readAddress 20 rfl) rfl rfl ?_
      refine fv_iconst (ft_d o_Ta_readAddress 21 rfl) rfl rfl ?_
      refine fv_sipush (ft_d o_Ta_readAddress 22 rfl) rfl rfl ?_
      refine fv_callif (st := []) (z := (if h 113 4 = 2 ∧ (0 : Int) ≤ h 113 5 ∧ h 113 5 ≤ (255 : Int) then 1 else 0)) (Or.inr rfl) rfl (ft_mm (pre := [.inl 255, .inl 0, .inr (.inr 113)]) rfl) (ft_rnV (K' := k_Ta_isNumber) (As := [.inl 0, .inl 255]) (ft_d o_Ta_readAddress 23 rfl) ml_Ta_29 li_Ta_isNumber.1 li_Ta_isNumber.2 lw_Ta_isNumber ⟨rfl, rfl, Nat.le_of_ble_eq_true rfl, Nat.le_of_ble_eq_true rfl⟩ sh_113 rfl rfl rfl rfl (Nat.le_of_ble_eq_true rfl) (c_Ta_isNumber)) ?_
      refine fv_if_ne (tgt := 48) (ft_d o_Ta_readAddress 24 rfl) rfl rfl (fun c => ?_) (fun c => ?_)
      · have w := w.1 (ft_if1.mp c)
        refine fv_aload_n (ft_d o_Ta_readAddress 27 rfl) rfl rfl ?_
        refine fv_aload_n (ft_d o_Ta_readAddress 28 rfl) rfl rfl ?_
        refine fv_getL (ft_d o_Ta_readAddress 29 rfl) rfl fl_Ta_67 sh_113 rfl ?_
        refine fv_bipush (ft_d o_Ta_readAddress 30 rfl) rfl rfl ?_
        refine fv_lshl (ft_d o_Ta_readAddress 31 rfl) rfl ?_
        refine fv_aload_n (ft_d o_Ta_readAddress 32 rfl) rfl rfl ?_
        refine fv_getI (ft_d o_Ta_readAddress 33 rfl) rfl fl_Ta_33 sh_113 rfl ?_
        refine fv_i2l (ft_d o_Ta_readAddress 34 rfl) rfl ?_
        refine fv_lor (ft_d o_Ta_readAddress 35 rfl) rfl ?_
        refine fv_putL (ft_d o_Ta_readAddress 36 rfl) rfl fl_Ta_67 rfl rfl sh_113 rfl ?_
        generalize eh1 : ft_hs h 113 6 (ft_orL (ft_shlL (h 113 6) 8) (h 113 5)) = h1
        have w := w h1 eh1.symm
        refine fv_iinc (L' := [some (.inr (.inr 113)), some (.inl (ft_add x1 1))]) (ft_d o_Ta_readAddress 37 rfl) rfl rfl (Nat.le_of_ble_eq_true rfl) rfl ?_
        refine fv_goto (pc' := 7) (ft_d o_Ta_readAddress 38 rfl) rfl ?_
        exact w
      · have w := w.2 (ft_if0.mp c)
        refine fv_iconst (ft_d o_Ta_readAddress 25 rfl) rfl rfl ?_
        exact fv_zreturn (ft_d o_Ta_readAddress 26 rfl) rfl (Or.inl rfl) w
    · have w := w.2 c
      refine fv_aload_n (ft_d o_Ta_readAddress 10 rfl) rfl rfl ?_
      obtain ⟨R3, c4, w⟩ := w
      refine fv_callv (st := []) rfl rfl (ft_mm (pre := [.inr (.inr 113)]) rfl) (ft_rnV (K' := k_Ta_step) (As := []) (ft_d o_Ta_readAddress 11 rfl) ml_Ta_22 li_Ta_step.1 li_Ta_step.2 lw_Ta_step ⟨rfl, rfl, Nat.le_of_ble_eq_true rfl, Nat.le_of_ble_eq_true rfl⟩ sh_113 rfl rfl rfl rfl (Nat.le_of_ble_eq_true rfl) c4) (fun h2 hw => ?_)
      have w := w h2 hw
      refine fv_aload_n (ft_d o_Ta_readAddress 12 rfl) rfl rfl ?_
      refine fv_getI (ft_d o_Ta_readAddress 13 rfl) rfl fl_Ta_41 sh_113 rfl ?_
      refine fv_bipush (ft_d o_Ta_readAddress 14 rfl) rfl rfl ?_
      refine fv_icmp_eq (tgt := 31) (ft_d o_Ta_readAddress 15 rfl) rfl rfl (fun c => ?_) (fun c => ?_)
      · have w := w.1 c
        refine fv_aload_n (ft_d o_Ta_readAddress 18 rfl) rfl rfl ?_
        obtain ⟨R5, c6, w⟩ := w
        refine fv_callv (st := []) rfl rfl (ft_mm (pre := [.inr (.inr 113)]) rfl) (ft_rnV (K' := k_Ta_step) (As := []) (ft_d o_Ta_readAddress 19 rfl) ml_Ta_22 li_Ta_step.1 li_Ta_step.2 lw_Ta_step ⟨rfl, rfl, Nat.le_of_ble_eq_true rfl, Nat.le_of_ble_eq_true rfl⟩ sh_113 rfl rfl rfl rfl (Nat.le_of_ble_eq_true rfl) c6) (fun h3 hw => ?_)
        have w := w h3 hw
        refine fv_aload_n (ft_d o_Ta_readAddress 20 rfl) rfl rfl ?_
        refine fv_iconst (ft_d o_Ta_readAddress 21 rfl) rfl rfl ?_
        refine fv_sipush (ft_d o_Ta_readAddress 22 rfl) rfl rfl ?_
        refine fv_callif (st := []) (z := (if h3 113 4 = 2 ∧ (0 : Int) ≤ h3 113 5 ∧ h3 113 5 ≤ (255 : Int) then 1 else 0)) (Or.inr rfl) rfl (ft_mm (pre := [.inl 255, .inl 0, .inr (.inr 113)]) rfl) (ft_rnV (K' := k_Ta_isNumber) (As := [.inl 0, .inl 255]) (ft_d o_Ta_readAddress 23 rfl) ml_Ta_29 li_Ta_isNumber.1 li_Ta_isNumber.2 lw_Ta_isNumber ⟨rfl, rfl, Nat.le_of_ble_eq_true rfl, Nat.le_of_ble_eq_true rfl⟩ sh_113 rfl rfl rfl rfl (Nat.le_of_ble_eq_true rfl) (c_Ta_isNumber)) ?_
        refine fv_if_ne (tgt := 48) (ft_d o_Ta_readAddress 24 rfl) rfl rfl (fun c => ?_) (fun c => ?_)
        · have w := w.1 (ft_if1.mp c)
          refine fv_aload_n (ft_d o_Ta_readAddress 27 rfl) rfl rfl ?_
          refine fv_aload_n (ft_d o_Ta_readAddress 28 rfl) rfl rfl ?_
          refine fv_getL (ft_d o_Ta_readAddress 29 rfl) rfl fl_Ta_67 sh_113 rfl ?_
          refine fv_bipush (ft_d o_Ta_readAddress 30 rfl) rfl rfl ?_
          refine fv_lshl (ft_d o_Ta_readAddress 31 rfl) rfl ?_
          refine fv_aload_n (ft_d o_Ta_readAddress 32 rfl) rfl rfl ?_
          refine fv_getI (ft_d o_Ta_readAddress 33 rfl) rfl fl_Ta_33 sh_113 rfl ?_
          refine fv_i2l (ft_d o_Ta_readAddress 34 rfl) rfl ?_
          refine fv_lor (ft_d o_Ta_readAddress 35 rfl) rfl ?_
          refine fv_putL (ft_d o_Ta_readAddress 36 rfl) rfl fl_Ta_67 rfl rfl sh_113 rfl ?_
          generalize eh4 : ft_hs h3 113 6 (ft_orL (ft_shlL (h3 113 6) 8) (h3 113 5)) = h4
          have w := w h4 eh4.symm
          refine fv_iinc (L' := [some (.inr (.inr 113)), some (.inl (ft_add x1 1))]) (ft_d o_Ta_readAddress 37 rfl) rfl rfl (Nat.le_of_ble_eq_true rfl) rfl ?_
          refine fv_goto (pc' := 7) (ft_d o_Ta_readAddress 38 rfl) rfl ?_
          exact w
        · have w := w.2 (ft_if0.mp c)
          refine fv_iconst (ft_d o_Ta_readAddress 25 rfl) rfl rfl ?_
          exact fv_zreturn (ft_d o_Ta_readAddress 26 rfl) rfl (Or.inl rfl) w
      · have w := w.2 c
        refine fv_iconst (ft_d o_Ta_readAddress 16 rfl) rfl rfl ?_
        exact fv_zreturn (ft_d o_Ta_readAddress 17 rfl) rfl (Or.inl rfl) w
set_option maxRecDepth 20000 in
theorem b_Ta_take_0 {x1 : Int} {h : ftH} {R : Option ftV → ftH → Prop} 
    (w : ((h 113 4 = x1 → (∃ R1 : Option ftV → ftH → Prop, ft_C k_Ta_step [.inr (.inr 113)] h R1 ∧ ∀ h1 : ftH, R1 none h1 → R (some (.inl 1)) h1)) ∧ (¬ (h 113 4 = x1) → R (some (.inl 0)) h))) : ft_V k_Ta_take 0 [some (.inr (.inr 113)), some (.inl x1)] [] h R := by
  refine fv_aload_n (ft_d o_Ta_take 0 rfl) rfl rfl ?_
  refine fv_getI (ft_d o_Ta_take 1 rfl) rfl fl_Ta_41 sh_113 rfl ?_
  refine fv_iload_n (ft_d o_Ta_take 2 rfl) rfl rfl ?_
  refine fv_icmp_eq (tgt := 10) (ft_d o_Ta_take 3 rfl) rfl rfl (fun c => ?_) (fun c => ?_)
  · have w := w.1 c
    refine fv_aload_n (ft_d o_Ta_take 6 rfl) rfl rfl ?_
    obtain ⟨R1, c2, w⟩ := w
    refine fv_callv (st := []) rfl rfl (ft_mm (pre := [.inr (.inr 113)]) rfl) (ft_rnV (K' := k_Ta_step) (As := []) (ft_d o_Ta_take 7 rfl) ml_Ta_22 li_Ta_step.1 li_Ta_step.2 lw_Ta_step ⟨rfl, rfl, Nat.le_of_ble_eq_true rfl, Nat.le_of_ble_eq_true rfl⟩ sh_113 rfl rfl rfl rfl (Nat.le_of_ble_eq_true rfl) c2) (fun h1 hw => ?_)
    have w := w h1 hw
    refine fv_iconst (ft_d o_Ta_take 8 rfl) rfl rfl ?_
    exact fv_zreturn (ft_d o_Ta_take 9 rfl) rfl (Or.inr rfl) w
  · have w := w.2 c
    refine fv_iconst (ft_d o_Ta_take 4 rfl) rfl rfl ?_
    exact fv_zreturn (ft_d o_Ta_take 5 rfl) rfl (Or.inl rfl) w
set_option maxRecDepth 20000 in
theorem b_Ta_step_0  {h : ftH} {R : Option ftV → ftH → Prop} 
    (w : ((h 113 1 ≤ h 113 3 → ft_V k_Ta_step 52 [some (.inr (.inr 113)), none] [] h R) ∧ (¬ (h 113 1 ≤ h 113 3) → ((0 ≤ h 113 3 ∧ h 113 3 < 2200) ∧ ((h 114 (h 113 3).toNat = 32 → ft_V k_Ta_step 39 [some (.inr (.inr 113)), none] [] h R) ∧ (¬ (h 114 (h 113 3).toNat = 32) → ((0 ≤ h 113 3 ∧ h 113 3 < 2200) ∧ ((¬ (h 114 (h 113 3).toNat = 10) → ft_V k_Ta_step 52 [some (.inr (.inr 113)), none] [] h R) ∧ (h 114 (h 113 3).toNat = 10 → ft_V k_Ta_step 39 [some (.inr (.inr 113)), none] [] h R))))))))) : ft_V k_Ta_step 0 [some (.inr (.inr 113)), none] [] h R := by
  refine fv_aload_n (ft_d o_Ta_step 0 rfl) rfl rfl ?_
  refine fv_getI (ft_d o_Ta_step 1 rfl) rfl fl_Ta_19 sh_113 rfl ?_
  refine fv_aload_n (ft_d o_Ta_step 2 rfl) rfl rfl ?_
  refine fv_getI (ft_d o_Ta_step 3 rfl) rfl fl_Ta_15 sh_113 rfl ?_
  refine fv_icmp_ge (tgt := 52) (ft_d o_Ta_step 4 rfl) rfl rfl (fun c => ?_) (fun c => ?_)
  · have w := w.1 c
    exact w
  · have w := w.2 c
    refine fv_aload_n (ft_d o_Ta_step 5 rfl) rfl rfl ?_
    refine fv_getR (b := 114) (ft_d o_Ta_step 6 rfl) rfl fl_Ta_9 sh_113 rfl ly_113_0 ?_
    refine fv_aload_n (ft_d o_Ta_step 7 rfl) rfl rfl ?_
    refine fv_getI (ft_d o_Ta_step 8 rfl) rfl fl_Ta_19 sh_113 rfl ?_
    refine fv_bald (ft_d o_Ta_step 9 rfl) rfl sh_114 w.1 ?_
    have w := w.2
    refine fv_bipush (ft_d o_Ta_step 10 rfl) rfl rfl ?_
    refine fv_icmp_eq (tgt := 39) (ft_d o_Ta_step 11 rfl) rfl rfl (fun c => ?_) (fun c => ?_)
    · have w := w.1 c
      exact w
    · have w := w.2 c
      refine fv_aload_n (ft_d o_Ta_step 12 rfl) rfl rfl ?_
      refine fv_getR (b := 114) (ft_d o_Ta_step 13 rfl) rfl fl_Ta_9 sh_113 rfl ly_113_0 ?_
      refine fv_aload_n (ft_d o_Ta_step 14 rfl) rfl rfl ?_
      refine fv_getI (ft_d o_Ta_step 15 rfl) rfl fl_Ta_19 sh_113 rfl ?_
      refine fv_bald (ft_d o_Ta_step 16 rfl) rfl sh_114 w.1 ?_
      have w := w.2
      refine fv_bipush (ft_d o_Ta_step 17 rfl) rfl rfl ?_
      refine fv_icmp_ne (tgt := 52) (ft_d o_Ta_step 18 rfl) rfl rfl (fun c => ?_) (fun c => ?_)
      · have w := w.1 c
        exact w
      · have w := w.2 c
        exact w
set_option maxRecDepth 20000 in
theorem b_Ta_step_39  {h : ftH} {R : Option ftV → ftH → Prop} 
    (w : (∀ h1 : ftH, h1 = ft_hs h 113 3 (ft_add (h 113 3) 1) → ft_V k_Ta_step 0 [some (.inr (.inr 113)), none] [] h1 R)) : ft_V k_Ta_step 39 [some (.inr (.inr 113)), none] [] h R := by
  refine fv_aload_n (ft_d o_Ta_step 19 rfl) rfl rfl ?_
  refine fv_dup (ft_d o_Ta_step 20 rfl) rfl rfl ?_
  refine fv_getI (ft_d o_Ta_step 21 rfl) rfl fl_Ta_19 sh_113 rfl ?_
  refine fv_iconst (ft_d o_Ta_step 22 rfl) rfl rfl ?_
  refine fv_iadd (ft_d o_Ta_step 23 rfl) rfl ?_
  refine fv_putI (ft_d o_Ta_step 24 rfl) rfl fl_Ta_19 rfl rfl sh_113 rfl ?_
  generalize eh1 : ft_hs h 113 3 (ft_add (h 113 3) 1) = h1
  have w := w h1 eh1.symm
  refine fv_goto (pc' := 0) (ft_d o_Ta_step 25 rfl) rfl ?_
  exact w
set_option maxRecDepth 20000 in
theorem b_Ta_step_52  {h : ftH} {R : Option ftV → ftH → Prop} 
    (w : (∀ h1 : ftH, h1 = ft_hs h 113 2 (h 113 3) → ((h1 113 3 < h1 113 1 → ((0 ≤ h1 113 3 ∧ h1 113 3 < 2200) ∧ ((¬ (97 ≤ (h1 114 (h1 113 3).toNat) ∧ (h1 114 (h1 113 3).toNat) ≤ 122) → ((0 ≤ h1 113 3 ∧ h1 113 3 < 2200) ∧ ((¬ (48 ≤ (h1 114 (h1 113 3).toNat) ∧ (h1 114 (h1 113 3).toNat) ≤ 57) → ((0 ≤ h1 113 3 ∧ h1 113 3 < 2200) ∧ (∀ n5 : Int, n5 = h1 114 (h1 113 3).toNat → ((n5 = 59 → ft_V k_Ta_step 152 [some (.inr (.inr 113)), some (.inl n5)] [.inr (.inr 113)] h1 R) ∧ (¬ (n5 = 59) → ((n5 = 46 → ft_V k_Ta_step 152 [some (.inr (.inr 113)), some (.inl n5)] [.inr (.inr 113)] h1 R) ∧ (¬ (n5 = 46) → ((¬ (n5 = 47) → ft_V k_Ta_step 157 [some (.inr (.inr 113)), none] [.inl 1, .inr (.inr 113)] h1 R) ∧ (n5 = 47 → ft_V k_Ta_step 152 [some (.inr (.inr 113)), some (.inl n5)] [.inr (.inr 113)] h1 R))))))))) ∧ (48 ≤ (h1 114 (h1 113 3).toNat) ∧ (h1 114 (h1 113 3).toNat) ≤ 57 → (∃ R6 : Option ftV → ftH → Prop, ft_C k_Ta_stepOverNumber [.inr (.inr 113)] h1 R6 ∧ ∀ h2 : ftH, R6 none h2 → R none h2))))) ∧ (97 ≤ (h1 114 (h1 113 3).toNat) ∧ (h1 114 (h1 113 3).toNat) ≤ 122 → (∃ R8 : Option ftV → ftH → Prop, ft_C k_Ta_stepOverWord [.inr (.inr 113)] h1 R8 ∧ ∀ h3 : ftH, R8 none h3 → R none h3))))) ∧ (¬ (h1 113 3 < h1 113 1) → (∀ h4 : ftH, h4 = ft_hs h1 113 4 0 → R none h4))))) : ft_V k_Ta_step 52 [some (.inr (.inr 113)), none] [] h R := by
  refine fv_aload_n (ft_d o_Ta_step 26 rfl) rfl rfl ?_
  refine fv_aload_n (ft_d o_Ta_step 27 rfl) rfl rfl ?_
  refine fv_getI (ft_d o_Ta_step 28 rfl) rfl fl_Ta_19 sh_113 rfl ?_
  refine fv_putI (ft_d o_Ta_step 29 rfl) rfl fl_Ta_94 rfl rfl sh_113 rfl ?_
  generalize eh1 : ft_hs h 113 2 (h 113 3) = h1
  have w := w h1 eh1.symm
  refine fv_aload_n (ft_d o_Ta_step 30 rfl) rfl rfl ?_
  refine fv_getI (ft_d o_Ta_step 31 rfl) rfl fl_Ta_19 sh_113 rfl ?_
  refine fv_aload_n (ft_d o_Ta_step 32 rfl) rfl rfl ?_
  refine fv_getI (ft_d o_Ta_step 33 rfl) rfl fl_Ta_15 sh_113 rfl ?_
  refine fv_icmp_lt (tgt := 79) (ft_d o_Ta_step 34 rfl) rfl rfl (fun c => ?_) (fun c => ?_)
  · have w := w.1 c
    refine fv_aload_n (ft_d o_Ta_step 39 rfl) rfl rfl ?_
    refine fv_getR (b := 114) (ft_d o_Ta_step 40 rfl) rfl fl_Ta_9 sh_113 rfl ly_113_0 ?_
    refine fv_aload_n (ft_d o_Ta_step 41 rfl) rfl rfl ?_
    refine fv_getI (ft_d o_Ta_step 42 rfl) rfl fl_Ta_19 sh_113 rfl ?_
    refine fv_bald (ft_d o_Ta_step 43 rfl) rfl sh_114 w.1 ?_
    have w := w.2
    refine fv_callif (st := []) (z := (if 97 ≤ (h1 114 (h1 113 3).toNat) ∧ (h1 114 (h1 113 3).toNat) ≤ 122 then 1 else 0)) (Or.inr rfl) rfl (ft_mm (pre := [.inl (h1 114 (h1 113 3).toNat)]) rfl) (ft_rnS (K' := k_Ta_isLetter) (As := [.inl (h1 114 (h1 113 3).toNat)]) (ft_d o_Ta_step 44 rfl) ml_Ta_97 lz_Ta_isLetter rfl lw_Ta_isLetter ⟨rfl, rfl, Nat.le_of_ble_eq_true rfl, Nat.le_of_ble_eq_true rfl⟩ rfl rfl (Nat.le_of_ble_eq_true rfl) (c_Ta_isLetter)) ?_
    refine fv_if_eq (tgt := 101) (ft_d o_Ta_step 45 rfl) rfl rfl (fun c => ?_) (fun c => ?_)
    · have w := w.1 (ft_if0.mp c)
      refine fv_aload_n (ft_d o_Ta_step 49 rfl) rfl rfl ?_
      refine fv_getR (b := 114) (ft_d o_Ta_step 50 rfl) rfl fl_Ta_9 sh_113 rfl ly_113_0 ?_
      refine fv_aload_n (ft_d o_Ta_step 51 rfl) rfl rfl ?_
      refine fv_getI (ft_d o_Ta_step 52 rfl) rfl fl_Ta_19 sh_113 rfl ?_
      refine fv_bald (ft_d o_Ta_step 53 rfl) rfl sh_114 w.1 ?_
      have w := w.2
      refine fv_callif (st := []) (z := (if 48 ≤ (h1 114 (h1 113 3).toNat) ∧ (h1 114 (h1 113 3).toNat) ≤ 57 then 1 else 0)) (Or.inr rfl) rfl (ft_mm (pre := [.inl (h1 114 (h1 113 3).toNat)]) rfl) (ft_rnS (K' := k_Ta_isDigit) (As := [.inl (h1 114 (h1 113 3).toNat)]) (ft_d o_Ta_step 54 rfl) ml_Ta_103 lz_Ta_isDigit rfl lw_Ta_isDigit ⟨rfl, rfl, Nat.le_of_ble_eq_true rfl, Nat.le_of_ble_eq_true rfl⟩ rfl rfl (Nat.le_of_ble_eq_true rfl) (c_Ta_isDigit)) ?_
      refine fv_if_eq (tgt := 123) (ft_d o_Ta_step 55 rfl) rfl rfl (fun c => ?_) (fun c => ?_)
      · have w := w.1 (ft_if0.mp c)
        refine fv_aload_n (ft_d o_Ta_step 59 rfl) rfl rfl ?_
        refine fv_getR (b := 114) (ft_d o_Ta_step 60 rfl) rfl fl_Ta_9 sh_113 rfl ly_113_0 ?_
        refine fv_aload_n (ft_d o_Ta_step 61 rfl) rfl rfl ?_
        refine fv_getI (ft_d o_Ta_step 62 rfl) rfl fl_Ta_19 sh_113 rfl ?_
        refine fv_bald (ft_d o_Ta_step 63 rfl) rfl sh_114 w.1 ?_
        have w := w.2
        generalize en5 : h1 114 (h1 113 3).toNat = n5
        have w := w n5 en5.symm
        refine fv_istore_n (L' := [some (.inr (.inr 113)), some (.inl n5)]) (ft_d o_Ta_step 64 rfl) rfl (Nat.le_of_ble_eq_true rfl) rfl ?_
        refine fv_aload_n (ft_d o_Ta_step 65 rfl) rfl rfl ?_
        refine fv_iload_n (ft_d o_Ta_step 66 rfl) rfl rfl ?_
        refine fv_bipush (ft_d o_Ta_step 67 rfl) rfl rfl ?_
        refine fv_icmp_eq (tgt := 152) (ft_d o_Ta_step 68 rfl) rfl rfl (fun c => ?_) (fun c => ?_)
        · have w := w.1 c
          exact w
        · have w := w.2 c
          refine fv_iload_n (ft_d o_Ta_step 69 rfl) rfl rfl ?_
          refine fv_bipush (ft_d o_Ta_step 70 rfl) rfl rfl ?_
          refine fv_icmp_eq (tgt := 152) (ft_d o_Ta_step 71 rfl) rfl rfl (fun c => ?_) (fun c => ?_)
          · have w := w.1 c
            exact w
          · have w := w.2 c
            refine fv_iload_n (ft_d o_Ta_step 72 rfl) rfl rfl ?_
            refine fv_bipush (ft_d o_Ta_step 73 rfl) rfl rfl ?_
            refine fv_icmp_ne (tgt := 156) (ft_d o_Ta_step 74 rfl) rfl rfl (fun c => ?_) (fun c => ?_)
            · have w := w.1 c
              refine fv_iconst (ft_d o_Ta_step 77 rfl) rfl rfl ?_
              refine fv_mask (M := [true, false]) rfl ?_
              exact w
            · have w := w.2 c
              exact w
      · have w := w.2 (ft_if1.mp c)
        refine fv_aload_n (ft_d o_Ta_step 56 rfl) rfl rfl ?_
        obtain ⟨R6, c7, w⟩ := w
        refine fv_callv (st := []) rfl rfl (ft_mm (pre := [.inr (.inr 113)]) rfl) (ft_rnV (K' := k_Ta_stepOverNumber) (As := []) (ft_d o_Ta_step 57 rfl) ml_Ta_106 li_Ta_stepOverNumber.1 li_Ta_stepOverNumber.2 lw_Ta_stepOverNumber ⟨rfl, rfl, Nat.le_of_ble_eq_true rfl, Nat.le_of_ble_eq_true rfl⟩ sh_113 rfl rfl rfl rfl (Nat.le_of_ble_eq_true rfl) c7) (fun h2 hw => ?_)
        have w := w h2 hw
        refine fv_goto (pc' := 170) (ft_d o_Ta_step 58 rfl) rfl ?_
        exact fv_return (ft_d o_Ta_step 85 rfl) rfl w
    · have w := w.2 (ft_if1.mp c)
      refine fv_aload_n (ft_d o_Ta_step 46 rfl) rfl rfl ?_
      obtain ⟨R8, c9, w⟩ := w
      refine fv_callv (st := []) rfl rfl (ft_mm (pre := [.inr (.inr 113)]) rfl) (ft_rnV (K' := k_Ta_stepOverWord) (As := []) (ft_d o_Ta_step 47 rfl) ml_Ta_100 li_Ta_stepOverWord.1 li_Ta_stepOverWord.2 lw_Ta_stepOverWord ⟨rfl, rfl, Nat.le_of_ble_eq_true rfl, Nat.le_of_ble_eq_true rfl⟩ sh_113 rfl rfl rfl rfl (Nat.le_of_ble_eq_true rfl) c9) (fun h3 hw => ?_)
      have w := w h3 hw
      refine fv_goto (pc' := 170) (ft_d o_Ta_step 48 rfl) rfl ?_
      exact fv_return (ft_d o_Ta_step 85 rfl) rfl w
  · have w := w.2 c
    refine fv_aload_n (ft_d o_Ta_step 35 rfl) rfl rfl ?_
    refine fv_iconst (ft_d o_Ta_step 36 rfl) rfl rfl ?_
    refine fv_putI (ft_d o_Ta_step 37 rfl) rfl fl_Ta_41 rfl rfl sh_113 rfl ?_
    generalize eh4 : ft_hs h1 113 4 0 = h4
    have w := w h4 eh4.symm
    refine fv_goto (pc' := 170) (ft_d o_Ta_step 38 rfl) rfl ?_
    exact fv_return (ft_d o_Ta_step 85 rfl) rfl w
set_option maxRecDepth 20000 in
theorem b_Ta_step_152 {x1 : Int} {h : ftH} {R : Option ftV → ftH → Prop} 
    (w : ft_V k_Ta_step 157 [some (.inr (.inr 113)), none] [.inl x1, .inr (.inr 113)] h R) : ft_V k_Ta_step 152 [some (.inr (.inr 113)), some (.inl x1)] [.inr (.inr 113)] h R := by
  refine fv_iload_n (ft_d o_Ta_step 75 rfl) rfl rfl ?_
  refine fv_goto (pc' := 157) (ft_d o_Ta_step 76 rfl) rfl ?_
  refine fv_mask (M := [true, false]) rfl ?_
  exact w
set_option maxRecDepth 20000 in
theorem b_Ta_step_157 {y1 : Int} {h : ftH} {R : Option ftV → ftH → Prop} 
    (w : (∀ h1 : ftH, h1 = ft_hs h 113 4 y1 → (∀ h2 : ftH, h2 = ft_hs h1 113 3 (ft_add (h1 113 3) 1) → R none h2))) : ft_V k_Ta_step 157 [some (.inr (.inr 113)), none] [.inl y1, .inr (.inr 113)] h R := by
  refine fv_putI (ft_d o_Ta_step 78 rfl) rfl fl_Ta_41 rfl rfl sh_113 rfl ?_
  generalize eh1 : ft_hs h 113 4 y1 = h1
  have w := w h1 eh1.symm
  refine fv_aload_n (ft_d o_Ta_step 79 rfl) rfl rfl ?_
  refine fv_dup (ft_d o_Ta_step 80 rfl) rfl rfl ?_
  refine fv_getI (ft_d o_Ta_step 81 rfl) rfl fl_Ta_19 sh_113 rfl ?_
  refine fv_iconst (ft_d o_Ta_step 82 rfl) rfl rfl ?_
  refine fv_iadd (ft_d o_Ta_step 83 rfl) rfl ?_
  refine fv_putI (ft_d o_Ta_step 84 rfl) rfl fl_Ta_19 rfl rfl sh_113 rfl ?_
  generalize eh2 : ft_hs h1 113 3 (ft_add (h1 113 3) 1) = h2
  have w := w h2 eh2.symm
  exact fv_return (ft_d o_Ta_step 85 rfl) rfl w
set_option maxRecDepth 20000 in
theorem b_Ta_stepOverNumber_0  {h : ftH} {R : Option ftV → ftH → Prop} 
    (w : (∀ h1 : ftH, h1 = ft_hs h 113 5 0 → ft_V k_Ta_stepOverNumber 5 [some (.inr (.inr 113))] [] h1 R)) : ft_V k_Ta_stepOverNumber 0 [some (.inr (.inr 113))] [] h R := by
  refine fv_aload_n (ft_d o_Ta_stepOverNumber 0 rfl) rfl rfl ?_
  refine fv_iconst (ft_d o_Ta_stepOverNumber 1 rfl) rfl rfl ?_
  refine fv_putI (ft_d o_Ta_stepOverNumber 2 rfl) rfl fl_Ta_33 rfl rfl sh_113 rfl ?_
  generalize eh1 : ft_hs h 113 5 0 = h1
  have w := w h1 eh1.symm
  exact w
set_option maxRecDepth 20000 in
theorem b_Ta_stepOverNumber_5  {h : ftH} {R : Option ftV → ftH → Prop} 
    (w : ((h 113 1 ≤ h 113 3 → ((3 < ft_sub (h 113 3) (h 113 2) → (∀ h1 : ftH, h1 = ft_hs h 113 4 1 → R none h1)) ∧ (¬ (3 < ft_sub (h 113 3) (h 113 2)) → (∀ h2 : ftH, h2 = ft_hs h 113 4 2 → R none h2)))) ∧ (¬ (h 113 1 ≤ h 113 3) → ((0 ≤ h 113 3 ∧ h 113 3 < 2200) ∧ ((¬ (48 ≤ (h 114 (h 113 3).toNat) ∧ (h 114 (h 113 3).toNat) ≤ 57) → ((3 < ft_sub (h 113 3) (h 113 2) → (∀ h3 : ftH, h3 = ft_hs h 113 4 1 → R none h3)) ∧ (¬ (3 < ft_sub (h 113 3) (h 113 2)) → (∀ h4 : ftH, h4 = ft_hs h 113 4 2 → R none h4)))) ∧ (48 ≤ (h 114 (h 113 3).toNat) ∧ (h 114 (h 113 3).toNat) ≤ 57 → ((3 ≤ ft_sub (h 113 3) (h 113 2) → (∀ h5 : ftH, h5 = ft_hs h 113 3 (ft_add (h 113 3) 1) → ft_V k_Ta_stepOverNumber 5 [some (.inr (.inr 113))] [] h5 R)) ∧ (¬ (3 ≤ ft_sub (h 113 3) (h 113 2)) → ((0 ≤ h 113 3 ∧ h 113 3 < 2200) ∧ (∀ h6 : ftH, h6 = ft_hs h 113 5 (ft_sub (ft_add (ft_mul (h 113 5) 10) (h 114 (h 113 3).toNat)) 48) → (∀ h7 : ftH, h7 = ft_hs h6 113 3 (ft_add (h6 113 3) 1) → ft_V k_Ta_stepOverNumber 5 [some (.inr (.inr 113))] [] h7 R))))))))))) : ft_V k_Ta_stepOverNumber 5 [some (.inr (.inr 113))] [] h R := by
  refine fv_aload_n (ft_d o_Ta_stepOverNumber 3 rfl) rfl rfl ?_
  refine fv_getI (ft_d o_Ta_stepOverNumber 4 rfl) rfl fl_Ta_19 sh_113 rfl ?_
  refine fv_aload_n (ft_d o_Ta_stepOverNumber 5 rfl) rfl rfl ?_
  refine fv_getI (ft_d o_Ta_stepOverNumber 6 rfl) rfl fl_Ta_15 sh_113 rfl ?_
  refine fv_icmp_ge (tgt := 81) (ft_d o_Ta_stepOverNumber 7 rfl) rfl rfl (fun c => ?_) (fun c => ?_)
  · have w := w.1 c
    refine fv_aload_n (ft_d o_Ta_stepOverNumber 43 rfl) rfl rfl ?_
    refine fv_aload_n (ft_d o_Ta_stepOverNumber 44 rfl) rfl rfl ?_
    refine fv_getI (ft_d o_Ta_stepOverNumber 45 rfl) rfl fl_Ta_19 sh_113 rfl ?_
    refine fv_aload_n (ft_d o_Ta_stepOverNumber 46 rfl) rfl rfl ?_
    refine fv_getI (ft_d o_Ta_stepOverNumber 47 rfl) rfl fl_Ta_94 sh_113 rfl ?_
    refine fv_isub (ft_d o_Ta_stepOverNumber 48 rfl) rfl ?_
    refine fv_iconst (ft_d o_Ta_stepOverNumber 49 rfl) rfl rfl ?_
    refine fv_icmp_gt (tgt := 99) (ft_d o_Ta_stepOverNumber 50 rfl) rfl rfl (fun c => ?_) (fun c => ?_)
    · have w := w.1 c
      refine fv_iconst (ft_d o_Ta_stepOverNumber 53 rfl) rfl rfl ?_
      refine fv_putI (ft_d o_Ta_stepOverNumber 54 rfl) rfl fl_Ta_41 rfl rfl sh_113 rfl ?_
      generalize eh1 : ft_hs h 113 4 1 = h1
      have w := w h1 eh1.symm
      exact fv_return (ft_d o_Ta_stepOverNumber 55 rfl) rfl w
    · have w := w.2 c
      refine fv_iconst (ft_d o_Ta_stepOverNumber 51 rfl) rfl rfl ?_
      refine fv_goto (pc' := 100) (ft_d o_Ta_stepOverNumber 52 rfl) rfl ?_
      refine fv_putI (ft_d o_Ta_stepOverNumber 54 rfl) rfl fl_Ta_41 rfl rfl sh_113 rfl ?_
      generalize eh2 : ft_hs h 113 4 2 = h2
      have w := w h2 eh2.symm
      exact fv_return (ft_d o_Ta_stepOverNumber 55 rfl) rfl w
  · have w := w.2 c
    refine fv_aload_n (ft_d o_Ta_stepOverNumber 8 rfl) rfl rfl ?_
    refine fv_getR (b := 114) (ft_d o_Ta_stepOverNumber 9 rfl) rfl fl_Ta_9 sh_113 rfl ly_113_0 ?_
    refine fv_aload_n (ft_d o_Ta_stepOverNumber 10 rfl) rfl rfl ?_
    refine fv_getI (ft_d o_Ta_stepOverNumber 11 rfl) rfl fl_Ta_19 sh_113 rfl ?_
    refine fv_bald (ft_d o_Ta_stepOverNumber 12 rfl) rfl sh_114 w.1 ?_
    have w := w.2
    refine fv_callif (st := []) (z := (if 48 ≤ (h 114 (h 113 3).toNat) ∧ (h 114 (h 113 3).toNat) ≤ 57 then 1 else 0)) (Or.inr rfl) rfl (ft_mm (pre := [.inl (h 114 (h 113 3).toNat)]) rfl) (ft_rnS (K' := k_Ta_isDigit) (As := [.inl (h 114 (h 113 3).toNat)]) (ft_d o_Ta_stepOverNumber 13 rfl) ml_Ta_103 lz_Ta_isDigit rfl lw_Ta_isDigit ⟨rfl, rfl, Nat.le_of_ble_eq_true rfl, Nat.le_of_ble_eq_true rfl⟩ rfl rfl (Nat.le_of_ble_eq_true rfl) (c_Ta_isDigit)) ?_
    refine fv_if_eq (tgt := 81) (ft_d o_Ta_stepOverNumber 14 rfl) rfl rfl (fun c => ?_) (fun c => ?_)
    · have w := w.1 (ft_if0.mp c)
      refine fv_aload_n (ft_d o_Ta_stepOverNumber 43 rfl) rfl rfl ?_
      refine fv_aload_n (ft_d o_Ta_stepOverNumber 44 rfl) rfl rfl ?_
      refine fv_getI (ft_d o_Ta_stepOverNumber 45 rfl) rfl fl_Ta_19 sh_113 rfl ?_
      refine fv_aload_n (ft_d o_Ta_stepOverNumber 46 rfl) rfl rfl ?_
      refine fv_getI (ft_d o_Ta_stepOverNumber 47 rfl) rfl fl_Ta_94 sh_113 rfl ?_
      refine fv_isub (ft_d o_Ta_stepOverNumber 48 rfl) rfl ?_
      refine fv_iconst (ft_d o_Ta_stepOverNumber 49 rfl) rfl rfl ?_
      refine fv_icmp_gt (tgt := 99) (ft_d o_Ta_stepOverNumber 50 rfl) rfl rfl (fun c => ?_) (fun c => ?_)
      · have w := w.1 c
        refine fv_iconst (ft_d o_Ta_stepOverNumber 53 rfl) rfl rfl ?_
        refine fv_putI (ft_d o_Ta_stepOverNumber 54 rfl) rfl fl_Ta_41 rfl rfl sh_113 rfl ?_
        generalize eh3 : ft_hs h 113 4 1 = h3
        have w := w h3 eh3.symm
        exact fv_return (ft_d o_Ta_stepOverNumber 55 rfl) rfl w
      · have w := w.2 c
        refine fv_iconst (ft_d o_Ta_stepOverNumber 51 rfl) rfl rfl ?_
        refine fv_goto (pc' := 100) (ft_d o_Ta_stepOverNumber 52 rfl) rfl ?_
        refine fv_putI (ft_d o_Ta_stepOverNumber 54 rfl) rfl fl_Ta_41 rfl rfl sh_113 rfl ?_
        generalize eh4 : ft_hs h 113 4 2 = h4
        have w := w h4 eh4.symm
        exact fv_return (ft_d o_Ta_stepOverNumber 55 rfl) rfl w
    · have w := w.2 (ft_if1.mp c)
      refine fv_aload_n (ft_d o_Ta_stepOverNumber 15 rfl) rfl rfl ?_
      refine fv_getI (ft_d o_Ta_stepOverNumber 16 rfl) rfl fl_Ta_19 sh_113 rfl ?_
      refine fv_aload_n (ft_d o_Ta_stepOverNumber 17 rfl) rfl rfl ?_
      refine fv_getI (ft_d o_Ta_stepOverNumber 18 rfl) rfl fl_Ta_94 sh_113 rfl ?_
      refine fv_isub (ft_d o_Ta_stepOverNumber 19 rfl) rfl ?_
      refine fv_iconst (ft_d o_Ta_stepOverNumber 20 rfl) rfl rfl ?_
      refine fv_icmp_ge (tgt := 68) (ft_d o_Ta_stepOverNumber 21 rfl) rfl rfl (fun c => ?_) (fun c => ?_)
      · have w := w.1 c
        refine fv_aload_n (ft_d o_Ta_stepOverNumber 36 rfl) rfl rfl ?_
        refine fv_dup (ft_d o_Ta_stepOverNumber 37 rfl) rfl rfl ?_
        refine fv_getI (ft_d o_Ta_stepOverNumber 38 rfl) rfl fl_Ta_19 sh_113 rfl ?_
        refine fv_iconst (ft_d o_Ta_stepOverNumber 39 rfl) rfl rfl ?_
        refine fv_iadd (ft_d o_Ta_stepOverNumber 40 rfl) rfl ?_
        refine fv_putI (ft_d o_Ta_stepOverNumber 41 rfl) rfl fl_Ta_19 rfl rfl sh_113 rfl ?_
        generalize eh5 : ft_hs h 113 3 (ft_add (h 113 3) 1) = h5
        have w := w h5 eh5.symm
        refine fv_goto (pc' := 5) (ft_d o_Ta_stepOverNumber 42 rfl) rfl ?_
        exact w
      · have w := w.2 c
        refine fv_aload_n (ft_d o_Ta_stepOverNumber 22 rfl) rfl rfl ?_
        refine fv_aload_n (ft_d o_Ta_stepOverNumber 23 rfl) rfl rfl ?_
        refine fv_getI (ft_d o_Ta_stepOverNumber 24 rfl) rfl fl_Ta_33 sh_113 rfl ?_
        refine fv_bipush (ft_d o_Ta_stepOverNumber 25 rfl) rfl rfl ?_
        refine fv_imul (ft_d o_Ta_stepOverNumber 26 rfl) rfl ?_
        refine fv_aload_n (ft_d o_Ta_stepOverNumber 27 rfl) rfl rfl ?_
        refine fv_getR (b := 114) (ft_d o_Ta_stepOverNumber 28 rfl) rfl fl_Ta_9 sh_113 rfl ly_113_0 ?_
        refine fv_aload_n (ft_d o_Ta_stepOverNumber 29 rfl) rfl rfl ?_
        refine fv_getI (ft_d o_Ta_stepOverNumber 30 rfl) rfl fl_Ta_19 sh_113 rfl ?_
        refine fv_bald (ft_d o_Ta_stepOverNumber 31 rfl) rfl sh_114 w.1 ?_
        have w := w.2
        refine fv_iadd (ft_d o_Ta_stepOverNumber 32 rfl) rfl ?_
        refine fv_bipush (ft_d o_Ta_stepOverNumber 33 rfl) rfl rfl ?_
        refine fv_isub (ft_d o_Ta_stepOverNumber 34 rfl) rfl ?_
        refine fv_putI (ft_d o_Ta_stepOverNumber 35 rfl) rfl fl_Ta_33 rfl rfl sh_113 rfl ?_
        generalize eh6 : ft_hs h 113 5 (ft_sub (ft_add (ft_mul (h 113 5) 10) (h 114 (h 113 3).toNat)) 48) = h6
        have w := w h6 eh6.symm
        refine fv_aload_n (ft_d o_Ta_stepOverNumber 36 rfl) rfl rfl ?_
        refine fv_dup (ft_d o_Ta_stepOverNumber 37 rfl) rfl rfl ?_
        refine fv_getI (ft_d o_Ta_stepOverNumber 38 rfl) rfl fl_Ta_19 sh_113 rfl ?_
        refine fv_iconst (ft_d o_Ta_stepOverNumber 39 rfl) rfl rfl ?_
        refine fv_iadd (ft_d o_Ta_stepOverNumber 40 rfl) rfl ?_
        refine fv_putI (ft_d o_Ta_stepOverNumber 41 rfl) rfl fl_Ta_19 rfl rfl sh_113 rfl ?_
        generalize eh7 : ft_hs h6 113 3 (ft_add (h6 113 3) 1) = h7
        have w := w h7 eh7.symm
        refine fv_goto (pc' := 5) (ft_d o_Ta_stepOverNumber 42 rfl) rfl ?_
        exact w
