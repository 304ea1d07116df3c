/-! printed by wip/whole/gen/gen10.py: what must hold at each cut point -/
set_option maxRecDepth 20000 in
theorem b_PS_copyFrom_0 {r0 : Nat} {r1 : Nat} {h : ftH} {R : Option ftV → ftH → Prop} (hr0 : ft_sh r0 = some (.inl 4)) (hr1 : ft_sh r1 = some (.inl 4))
    (w : (∀ n1 : Int, n1 = min (h r1 2) ((ft_ln (r0 + 1) : Int)) → ((0 ≤ (0 : Int) ∧ 0 ≤ (0 : Int) ∧ 0 ≤ n1 ∧ (0 : Int) + n1 ≤ (ft_ln (r1 + 1)) ∧ (0 : Int) + n1 ≤ (ft_ln (r0 + 1))) ∧ (∀ h1 : ftH, h1 = ft_cp h (r1 + 1) (0 : Int).toNat (r0 + 1) (0 : Int).toNat n1.toNat → ((0 ≤ (0 : Int) ∧ 0 ≤ (0 : Int) ∧ 0 ≤ n1 ∧ (0 : Int) + n1 ≤ (ft_ln (r1 + 2)) ∧ (0 : Int) + n1 ≤ (ft_ln (r0 + 2))) ∧ (∀ h2 : ftH, h2 = ft_cp h1 (r1 + 2) (0 : Int).toNat (r0 + 2) (0 : Int).toNat n1.toNat → (∀ h3 : ftH, h3 = ft_hs h2 r0 2 n1 → R none h3))))))) : ft_V k_PS_copyFrom 0 [some (.inr (.inr r0)), some (.inr (.inr r1)), none] [] h R := by
  refine fv_aload_n (ft_d o_PS_copyFrom 0 rfl) rfl rfl ?_
  refine fv_getI (ft_d o_PS_copyFrom 1 rfl) rfl fl_PS_19 hr1 rfl ?_
  refine fv_aload_n (ft_d o_PS_copyFrom 2 rfl) rfl rfl ?_
  refine fv_getR (b := r0 + 1) (ft_d o_PS_copyFrom 3 rfl) rfl fl_PS_9 hr0 rfl (lyc_4_0 hr0) ?_
  refine fv_alen (ft_d o_PS_copyFrom 4 rfl) rfl (shc_4_0 hr0) (by decide) rfl (ft_ln_lt _) ?_
  refine fv_min (ft_d o_PS_copyFrom 5 rfl) rfl ml_PS_23 (Nat.le_of_ble_eq_true rfl) (Nat.le_of_ble_eq_true rfl) (Nat.le_of_ble_eq_true rfl) ?_
  generalize en1 : min (h r1 2) ((ft_ln (r0 + 1) : Int)) = n1
  have w := w n1 en1.symm
  refine fv_istore_n (L' := [some (.inr (.inr r0)), some (.inr (.inr r1)), some (.inl n1)]) (ft_d o_PS_copyFrom 6 rfl) rfl (Nat.le_of_ble_eq_true rfl) rfl ?_
  refine fv_aload_n (ft_d o_PS_copyFrom 7 rfl) rfl rfl ?_
  refine fv_getR (b := r1 + 1) (ft_d o_PS_copyFrom 8 rfl) rfl fl_PS_9 hr1 rfl (lyc_4_0 hr1) ?_
  refine fv_iconst (ft_d o_PS_copyFrom 9 rfl) rfl rfl ?_
  refine fv_aload_n (ft_d o_PS_copyFrom 10 rfl) rfl rfl ?_
  refine fv_getR (b := r0 + 1) (ft_d o_PS_copyFrom 11 rfl) rfl fl_PS_9 hr0 rfl (lyc_4_0 hr0) ?_
  refine fv_iconst (ft_d o_PS_copyFrom 12 rfl) rfl rfl ?_
  refine fv_iload_n (ft_d o_PS_copyFrom 13 rfl) rfl rfl ?_
  refine fv_cpyL (ft_d o_PS_copyFrom 14 rfl) rfl ml_PS_29 (Nat.le_of_ble_eq_true rfl) (Nat.le_of_ble_eq_true rfl) (Nat.le_of_ble_eq_true rfl) (shc_4_0 hr1) (shc_4_0 hr0) w.1 ?_
  have w := w.2
  generalize eh1 : ft_cp h (r1 + 1) (0 : Int).toNat (r0 + 1) (0 : Int).toNat n1.toNat = h1
  have w := w h1 eh1.symm
  refine fv_aload_n (ft_d o_PS_copyFrom 15 rfl) rfl rfl ?_
  refine fv_getR (b := r1 + 2) (ft_d o_PS_copyFrom 16 rfl) rfl fl_PS_15 hr1 rfl (lyc_4_1 hr1) ?_
  refine fv_iconst (ft_d o_PS_copyFrom 17 rfl) rfl rfl ?_
  refine fv_aload_n (ft_d o_PS_copyFrom 18 rfl) rfl rfl ?_
  refine fv_getR (b := r0 + 2) (ft_d o_PS_copyFrom 19 rfl) rfl fl_PS_15 hr0 rfl (lyc_4_1 hr0) ?_
  refine fv_iconst (ft_d o_PS_copyFrom 20 rfl) rfl rfl ?_
  refine fv_iload_n (ft_d o_PS_copyFrom 21 rfl) rfl rfl ?_
  refine fv_cpyI (ft_d o_PS_copyFrom 22 rfl) rfl ml_PS_29 (Nat.le_of_ble_eq_true rfl) (Nat.le_of_ble_eq_true rfl) (Nat.le_of_ble_eq_true rfl) (shc_4_1 hr1) (shc_4_1 hr0) w.1 ?_
  have w := w.2
  generalize eh2 : ft_cp h1 (r1 + 2) (0 : Int).toNat (r0 + 2) (0 : Int).toNat n1.toNat = h2
  have w := w h2 eh2.symm
  refine fv_aload_n (ft_d o_PS_copyFrom 23 rfl) rfl rfl ?_
  refine fv_iload_n (ft_d o_PS_copyFrom 24 rfl) rfl rfl ?_
  refine fv_putI (ft_d o_PS_copyFrom 25 rfl) rfl fl_PS_19 rfl rfl hr0 rfl ?_
  generalize eh3 : ft_hs h2 r0 2 n1 = h3
  have w := w h3 eh3.symm
  exact fv_return (ft_d o_PS_copyFrom 26 rfl) rfl w
set_option maxRecDepth 20000 in
theorem b_PS_placeOf_0 {r0 : Nat} {x1 : Int} {h : ftH} {R : Option ftV → ftH → Prop} (hr0 : ft_sh r0 = some (.inl 4))
    (w : ft_V k_PS_placeOf 2 [some (.inr (.inr r0)), some (.inr (.inl x1)), none, some (.inl 0)] [] h R) : ft_V k_PS_placeOf 0 [some (.inr (.inr r0)), some (.inr (.inl x1)), none, none] [] h R := by
  refine fv_iconst (ft_d o_PS_placeOf 0 rfl) rfl rfl ?_
  refine fv_istore_n (L' := [some (.inr (.inr r0)), some (.inr (.inl x1)), none, some (.inl 0)]) (ft_d o_PS_placeOf 1 rfl) rfl (Nat.le_of_ble_eq_true rfl) rfl ?_
  exact w
set_option maxRecDepth 20000 in
theorem b_PS_placeOf_2 {r0 : Nat} {x1 : Int} {x3 : Int} {h : ftH} {R : Option ftV → ftH → Prop} (hr0 : ft_sh r0 = some (.inl 4))
    (w : ((h r0 2 ≤ x3 → R (some (.inl x3)) h) ∧ (¬ (h r0 2 ≤ x3) → ((0 ≤ x3 ∧ x3 < (ft_ln (r0 + 1))) ∧ ((x1 ≤ h (r0 + 1) x3.toNat → R (some (.inl x3)) h) ∧ (¬ (x1 ≤ h (r0 + 1) x3.toNat) → ft_V k_PS_placeOf 2 [some (.inr (.inr r0)), some (.inr (.inl x1)), none, some (.inl (ft_add x3 1))] [] h R)))))) : ft_V k_PS_placeOf 2 [some (.inr (.inr r0)), some (.inr (.inl x1)), none, some (.inl x3)] [] h R := by
  refine fv_iload_n (ft_d o_PS_placeOf 2 rfl) rfl rfl ?_
  refine fv_aload_n (ft_d o_PS_placeOf 3 rfl) rfl rfl ?_
  refine fv_getI (ft_d o_PS_placeOf 4 rfl) rfl fl_PS_19 hr0 rfl ?_
  refine fv_icmp_ge (tgt := 27) (ft_d o_PS_placeOf 5 rfl) rfl rfl (fun c => ?_) (fun c => ?_)
  · have w := w.1 c
    refine fv_iload_n (ft_d o_PS_placeOf 15 rfl) rfl rfl ?_
    exact fv_ireturn (ft_d o_PS_placeOf 16 rfl) rfl w
  · have w := w.2 c
    refine fv_aload_n (ft_d o_PS_placeOf 6 rfl) rfl rfl ?_
    refine fv_getR (b := r0 + 1) (ft_d o_PS_placeOf 7 rfl) rfl fl_PS_9 hr0 rfl (lyc_4_0 hr0) ?_
    refine fv_iload_n (ft_d o_PS_placeOf 8 rfl) rfl rfl ?_
    refine fv_lald (ft_d o_PS_placeOf 9 rfl) rfl (shc_4_0 hr0) w.1 ?_
    have w := w.2
    refine fv_lload_n (ft_d o_PS_placeOf 10 rfl) rfl rfl ?_
    refine fv_lcmp_ge (tgt := 27) (ft_d o_PS_placeOf 11 rfl) (ft_d o_PS_placeOf 12 rfl) rfl rfl (fun c => ?_) (fun c => ?_)
    · have w := w.1 c
      refine fv_iload_n (ft_d o_PS_placeOf 15 rfl) rfl rfl ?_
      exact fv_ireturn (ft_d o_PS_placeOf 16 rfl) rfl w
    · have w := w.2 c
      refine fv_iinc (L' := [some (.inr (.inr r0)), some (.inr (.inl x1)), none, some (.inl (ft_add x3 1))]) (ft_d o_PS_placeOf 13 rfl) rfl rfl (Nat.le_of_ble_eq_true rfl) rfl ?_
      refine fv_goto (pc' := 2) (ft_d o_PS_placeOf 14 rfl) rfl ?_
      exact w
set_option maxRecDepth 20000 in
theorem b_PS_indexOf_0 {r0 : Nat} {x1 : Int} {h : ftH} {R : Option ftV → ftH → Prop} (hr0 : ft_sh r0 = some (.inl 4))
    (w : (∃ R1 : Option ftV → ftH → Prop, ft_C k_PS_placeOf [.inr (.inr r0), .inr (.inl x1)] h R1 ∧ ∀ (z3 : Int) (h1 : ftH), ft_in z3 → R1 (some (.inl z3)) h1 → ((h1 r0 2 ≤ z3 → R (some (.inl ((-1)))) h1) ∧ (¬ (h1 r0 2 ≤ z3) → ((0 ≤ z3 ∧ z3 < (ft_ln (r0 + 1))) ∧ ((¬ (h1 (r0 + 1) z3.toNat = x1) → R (some (.inl ((-1)))) h1) ∧ (h1 (r0 + 1) z3.toNat = x1 → R (some (.inl z3)) h1))))))) : ft_V k_PS_indexOf 0 [some (.inr (.inr r0)), some (.inr (.inl x1)), none, none] [] h R := by
  refine fv_aload_n (ft_d o_PS_indexOf 0 rfl) rfl rfl ?_
  refine fv_lload_n (ft_d o_PS_indexOf 1 rfl) rfl rfl ?_
  obtain ⟨R1, c2, w⟩ := w
  refine fv_calli (st := []) (Or.inl rfl) rfl (ft_mm (pre := [.inr (.inl x1), .inr (.inr r0)]) rfl) (ft_rnV (K' := k_PS_placeOf) (As := [.inr (.inl x1)]) (ft_d o_PS_indexOf 2 rfl) ml_PS_35 li_PS_placeOf.1 li_PS_placeOf.2 lw_PS_placeOf ⟨rfl, rfl, Nat.le_of_ble_eq_true rfl, Nat.le_of_ble_eq_true rfl⟩ hr0 rfl rfl rfl rfl (Nat.le_of_ble_eq_true rfl) c2) (fun z3 h1 hz hw => ?_)
  have w := w z3 h1 hz hw
  refine fv_istore_n (L' := [some (.inr (.inr r0)), some (.inr (.inl x1)), none, some (.inl z3)]) (ft_d o_PS_indexOf 3 rfl) rfl (Nat.le_of_ble_eq_true rfl) rfl ?_
  refine fv_iload_n (ft_d o_PS_indexOf 4 rfl) rfl rfl ?_
  refine fv_aload_n (ft_d o_PS_indexOf 5 rfl) rfl rfl ?_
  refine fv_getI (ft_d o_PS_indexOf 6 rfl) rfl fl_PS_19 hr0 rfl ?_
  refine fv_icmp_ge (tgt := 29) (ft_d o_PS_indexOf 7 rfl) rfl rfl (fun c => ?_) (fun c => ?_)
  · have w := w.1 c
    refine fv_iconst (ft_d o_PS_indexOf 17 rfl) rfl rfl ?_
    exact fv_ireturn (ft_d o_PS_indexOf 18 rfl) rfl w
  · have w := w.2 c
    refine fv_aload_n (ft_d o_PS_indexOf 8 rfl) rfl rfl ?_
    refine fv_getR (b := r0 + 1) (ft_d o_PS_indexOf 9 rfl) rfl fl_PS_9 hr0 rfl (lyc_4_0 hr0) ?_
    refine fv_iload_n (ft_d o_PS_indexOf 10 rfl) rfl rfl ?_
    refine fv_lald (ft_d o_PS_indexOf 11 rfl) rfl (shc_4_0 hr0) w.1 ?_
    have w := w.2
    refine fv_lload_n (ft_d o_PS_indexOf 12 rfl) rfl rfl ?_
    refine fv_lcmp_ne (tgt := 29) (ft_d o_PS_indexOf 13 rfl) (ft_d o_PS_indexOf 14 rfl) rfl rfl (fun c => ?_) (fun c => ?_)
    · have w := w.1 c
      refine fv_iconst (ft_d o_PS_indexOf 17 rfl) rfl rfl ?_
      exact fv_ireturn (ft_d o_PS_indexOf 18 rfl) rfl w
    · have w := w.2 c
      refine fv_iload_n (ft_d o_PS_indexOf 15 rfl) rfl rfl ?_
      refine fv_goto (pc' := 30) (ft_d o_PS_indexOf 16 rfl) rfl ?_
      exact fv_ireturn (ft_d o_PS_indexOf 18 rfl) rfl w
set_option maxRecDepth 20000 in
theorem b_PS_longest_0 {r0 : Nat} {x1 : Int} {h : ftH} {R : Option ftV → ftH → Prop} (hr0 : ft_sh r0 = some (.inl 4))
    (w : (∀ n1 : Int, n1 = ft_sub (h r0 2) 1 → ft_V k_PS_longest 7 [some (.inr (.inr r0)), some (.inr (.inl x1)), none, some (.inl n1)] [] h R)) : ft_V k_PS_longest 0 [some (.inr (.inr r0)), some (.inr (.inl x1)), none, none] [] h R := by
  refine fv_aload_n (ft_d o_PS_longest 0 rfl) rfl rfl ?_
  refine fv_getI (ft_d o_PS_longest 1 rfl) rfl fl_PS_19 hr0 rfl ?_
  refine fv_iconst (ft_d o_PS_longest 2 rfl) rfl rfl ?_
  refine fv_isub (ft_d o_PS_longest 3 rfl) rfl ?_
  generalize en1 : ft_sub (h r0 2) 1 = n1
  have w := w n1 en1.symm
  refine fv_istore_n (L' := [some (.inr (.inr r0)), some (.inr (.inl x1)), none, some (.inl n1)]) (ft_d o_PS_longest 4 rfl) rfl (Nat.le_of_ble_eq_true rfl) rfl ?_
  exact w
set_option maxRecDepth 20000 in
theorem b_PS_longest_7 {r0 : Nat} {x1 : Int} {x3 : Int} {h : ftH} {R : Option ftV → ftH → Prop} (hr0 : ft_sh r0 = some (.inl 4))
    (w : ((x3 < 0 → R (some (.inl ((-1)))) h) ∧ (¬ (x3 < 0) → ((0 ≤ x3 ∧ x3 < (ft_ln (r0 + 1))) ∧ (((0 ≤ (h (r0 + 1) x3.toNat) ∧ (h (r0 + 1) x3.toNat) < 274877906944) ∧ (h (r0 + 1) x3.toNat) % 64 ≤ 32) ∧ ((¬ ((h (r0 + 1) x3.toNat) / 64 ≤ x1 ∧ x1 < (h (r0 + 1) x3.toNat) / 64 + pSz ((h (r0 + 1) x3.toNat) % 64)) → ft_V k_PS_longest 7 [some (.inr (.inr r0)), some (.inr (.inl x1)), none, some (.inl (ft_add x3 (-1)))] [] h R) ∧ ((h (r0 + 1) x3.toNat) / 64 ≤ x1 ∧ x1 < (h (r0 + 1) x3.toNat) / 64 + pSz ((h (r0 + 1) x3.toNat) % 64) → R (some (.inl x3)) h))))))) : ft_V k_PS_longest 7 [some (.inr (.inr r0)), some (.inr (.inl x1)), none, some (.inl x3)] [] h R := by
  refine fv_iload_n (ft_d o_PS_longest 5 rfl) rfl rfl ?_
  refine fv_if_lt (tgt := 32) (ft_d o_PS_longest 6 rfl) rfl rfl (fun c => ?_) (fun c => ?_)
  · have w := w.1 c
    refine fv_iconst (ft_d o_PS_longest 18 rfl) rfl rfl ?_
    exact fv_ireturn (ft_d o_PS_longest 19 rfl) rfl w
  · have w := w.2 c
    refine fv_aload_n (ft_d o_PS_longest 7 rfl) rfl rfl ?_
    refine fv_getR (b := r0 + 1) (ft_d o_PS_longest 8 rfl) rfl fl_PS_9 hr0 rfl (lyc_4_0 hr0) ?_
    refine fv_iload_n (ft_d o_PS_longest 9 rfl) rfl rfl ?_
    refine fv_lald (ft_d o_PS_longest 10 rfl) rfl (shc_4_0 hr0) w.1 ?_
    have w := w.2
    refine fv_lload_n (ft_d o_PS_longest 11 rfl) rfl rfl ?_
    refine fv_callif (st := []) (z := (if (h (r0 + 1) x3.toNat) / 64 ≤ x1 ∧ x1 < (h (r0 + 1) x3.toNat) / 64 + pSz ((h (r0 + 1) x3.toNat) % 64) then 1 else 0)) (Or.inr rfl) rfl (ft_mm (pre := [.inr (.inl x1), .inr (.inl (h (r0 + 1) x3.toNat))]) rfl) (ft_rnSN (K' := k_FT_contains) (As := [.inr (.inl (h (r0 + 1) x3.toNat)), .inr (.inl x1)]) (host := "ForwardingTable") (ft_d o_PS_longest 12 rfl) (by decide) lz_FT_contains lw_FT_contains ⟨rfl, rfl, Nat.le_of_ble_eq_true rfl, Nat.le_of_ble_eq_true rfl⟩ rfl rfl (Nat.le_of_ble_eq_true rfl) (c_FT_contains w.1)) ?_
    have w := w.2
    refine fv_if_eq (tgt := 26) (ft_d o_PS_longest 13 rfl) rfl rfl (fun c => ?_) (fun c => ?_)
    · have w := w.1 (ft_if0.mp c)
      refine fv_iinc (L' := [some (.inr (.inr r0)), some (.inr (.inl x1)), none, some (.inl (ft_add x3 (-1)))]) (ft_d o_PS_longest 16 rfl) rfl rfl (Nat.le_of_ble_eq_true rfl) rfl ?_
      refine fv_goto (pc' := 7) (ft_d o_PS_longest 17 rfl) rfl ?_
      exact w
    · have w := w.2 (ft_if1.mp c)
      refine fv_iload_n (ft_d o_PS_longest 14 rfl) rfl rfl ?_
      exact fv_ireturn (ft_d o_PS_longest 15 rfl) rfl w
set_option maxRecDepth 20000 in
theorem b_PS_answersByHop_0 {r0 : Nat} {x1 : Int} {h : ftH} {R : Option ftV → ftH → Prop} (hr0 : ft_sh r0 = some (.inl 4))
    (w : (∃ R1 : Option ftV → ftH → Prop, ft_C k_PS_longest [.inr (.inr r0), .inr (.inl x1)] h R1 ∧ ∀ (z3 : Int) (h1 : ftH), ft_in z3 → R1 (some (.inl z3)) h1 → ((z3 < 0 → R (some (.inl 0)) h1) ∧ (¬ (z3 < 0) → ((0 ≤ z3 ∧ z3 < (ft_ln (r0 + 2))) ∧ ((h1 (r0 + 2) z3.toNat = 16 → R (some (.inl 0)) h1) ∧ (¬ (h1 (r0 + 2) z3.toNat = 16) → R (some (.inl 1)) h1))))))) : ft_V k_PS_answersByHop 0 [some (.inr (.inr r0)), some (.inr (.inl x1)), none, none] [] h R := by
  refine fv_aload_n (ft_d o_PS_answersByHop 0 rfl) rfl rfl ?_
  refine fv_lload_n (ft_d o_PS_answersByHop 1 rfl) rfl rfl ?_
  obtain ⟨R1, c2, w⟩ := w
  refine fv_calli (st := []) (Or.inl rfl) rfl (ft_mm (pre := [.inr (.inl x1), .inr (.inr r0)]) rfl) (ft_rnV (K' := k_PS_longest) (As := [.inr (.inl x1)]) (ft_d o_PS_answersByHop 2 rfl) ml_PS_43 li_PS_longest.1 li_PS_longest.2 lw_PS_longest ⟨rfl, rfl, Nat.le_of_ble_eq_true rfl, Nat.le_of_ble_eq_true rfl⟩ hr0 rfl rfl rfl rfl (Nat.le_of_ble_eq_true rfl) c2) (fun z3 h1 hz hw => ?_)
  have w := w z3 h1 hz hw
  refine fv_istore_n (L' := [some (.inr (.inr r0)), some (.inr (.inl x1)), none, some (.inl z3)]) (ft_d o_PS_answersByHop 3 rfl) rfl (Nat.le_of_ble_eq_true rfl) rfl ?_
  refine fv_iload_n (ft_d o_PS_answersByHop 4 rfl) rfl rfl ?_
  refine fv_if_lt (tgt := 25) (ft_d o_PS_answersByHop 5 rfl) rfl rfl (fun c => ?_) (fun c => ?_)
  · have w := w.1 c
    refine fv_iconst (ft_d o_PS_answersByHop 14 rfl) rfl rfl ?_
    exact fv_zreturn (ft_d o_PS_answersByHop 15 rfl) rfl (Or.inl rfl) w
  · have w := w.2 c
    refine fv_aload_n (ft_d o_PS_answersByHop 6 rfl) rfl rfl ?_
    refine fv_getR (b := r0 + 2) (ft_d o_PS_answersByHop 7 rfl) rfl fl_PS_15 hr0 rfl (lyc_4_1 hr0) ?_
    refine fv_iload_n (ft_d o_PS_answersByHop 8 rfl) rfl rfl ?_
    refine fv_iald (ft_d o_PS_answersByHop 9 rfl) rfl (shc_4_1 hr0) w.1 ?_
    have w := w.2
    refine fv_bipush (ft_d o_PS_answersByHop 10 rfl) rfl rfl ?_
    refine fv_icmp_eq (tgt := 25) (ft_d o_PS_answersByHop 11 rfl) rfl rfl (fun c => ?_) (fun c => ?_)
    · have w := w.1 c
      refine fv_iconst (ft_d o_PS_answersByHop 14 rfl) rfl rfl ?_
      exact fv_zreturn (ft_d o_PS_answersByHop 15 rfl) rfl (Or.inl rfl) w
    · have w := w.2 c
      refine fv_iconst (ft_d o_PS_answersByHop 12 rfl) rfl rfl ?_
      refine fv_goto (pc' := 26) (ft_d o_PS_answersByHop 13 rfl) rfl ?_
      exact fv_zreturn (ft_d o_PS_answersByHop 15 rfl) rfl (Or.inr rfl) w
set_option maxRecDepth 20000 in
theorem b_PS_put_0 {r0 : Nat} {x1 : Int} {x3 : Int} {h : ftH} {R : Option ftV → ftH → Prop} (hr0 : ft_sh r0 = some (.inl 4))
    (w : (∃ R1 : Option ftV → ftH → Prop, ft_C k_PS_placeOf [.inr (.inr r0), .inr (.inl x1)] h R1 ∧ ∀ (z3 : Int) (h1 : ftH), ft_in z3 → R1 (some (.inl z3)) h1 → ((h1 r0 2 ≤ z3 → ((h1 r0 2 < (ft_ln (r0 + 1) : Int) → ((0 ≤ z3 ∧ 0 ≤ ft_add z3 1 ∧ 0 ≤ ft_sub (h1 r0 2) z3 ∧ z3 + (ft_sub (h1 r0 2) z3) ≤ (ft_ln (r0 + 1)) ∧ (ft_add z3 1) + (ft_sub (h1 r0 2) z3) ≤ (ft_ln (r0 + 1))) ∧ (∀ h2 : ftH, h2 = ft_cp h1 (r0 + 1) z3.toNat (r0 + 1) (ft_add z3 1).toNat (ft_sub (h1 r0 2) z3).toNat → ((0 ≤ z3 ∧ 0 ≤ ft_add z3 1 ∧ 0 ≤ ft_sub (h2 r0 2) z3 ∧ z3 + (ft_sub (h2 r0 2) z3) ≤ (ft_ln (r0 + 2)) ∧ (ft_add z3 1) + (ft_sub (h2 r0 2) z3) ≤ (ft_ln (r0 + 2))) ∧ (∀ h3 : ftH, h3 = ft_cp h2 (r0 + 2) z3.toNat (r0 + 2) (ft_add z3 1).toNat (ft_sub (h2 r0 2) z3).toNat → ((0 ≤ z3 ∧ z3 < (ft_ln (r0 + 1))) ∧ (∀ h4 : ftH, h4 = ft_hs h3 (r0 + 1) z3.toNat x1 → ((0 ≤ z3 ∧ z3 < (ft_ln (r0 + 2))) ∧ (∀ h5 : ftH, h5 = ft_hs h4 (r0 + 2) z3.toNat x3 → (∀ h6 : ftH, h6 = ft_hs h5 r0 2 (ft_add (h5 r0 2) 1) → R none h6)))))))))) ∧ (¬ (h1 r0 2 < (ft_ln (r0 + 1) : Int)) → R none h1))) ∧ (¬ (h1 r0 2 ≤ z3) → ((0 ≤ z3 ∧ z3 < (ft_ln (r0 + 1))) ∧ ((¬ (h1 (r0 + 1) z3.toNat = x1) → ((h1 r0 2 < (ft_ln (r0 + 1) : Int) → ((0 ≤ z3 ∧ 0 ≤ ft_add z3 1 ∧ 0 ≤ ft_sub (h1 r0 2) z3 ∧ z3 + (ft_sub (h1 r0 2) z3) ≤ (ft_ln (r0 + 1)) ∧ (ft_add z3 1) + (ft_sub (h1 r0 2) z3) ≤ (ft_ln (r0 + 1))) ∧ (∀ h7 : ftH, h7 = ft_cp h1 (r0 + 1) z3.toNat (r0 + 1) (ft_add z3 1).toNat (ft_sub (h1 r0 2) z3).toNat → ((0 ≤ z3 ∧ 0 ≤ ft_add z3 1 ∧ 0 ≤ ft_sub (h7 r0 2) z3 ∧ z3 + (ft_sub (h7 r0 2) z3) ≤ (ft_ln (r0 + 2)) ∧ (ft_add z3 1) + (ft_sub (h7 r0 2) z3) ≤ (ft_ln (r0 + 2))) ∧ (∀ h8 : ftH, h8 = ft_cp h7 (r0 + 2) z3.toNat (r0 + 2) (ft_add z3 1).toNat (ft_sub (h7 r0 2) z3).toNat → ((0 ≤ z3 ∧ z3 < (ft_ln (r0 + 1))) ∧ (∀ h9 : ftH, h9 = ft_hs h8 (r0 + 1) z3.toNat x1 → ((0 ≤ z3 ∧ z3 < (ft_ln (r0 + 2))) ∧ (∀ h10 : ftH, h10 = ft_hs h9 (r0 + 2) z3.toNat x3 → (∀ h11 : ftH, h11 = ft_hs h10 r0 2 (ft_add (h10 r0 2) 1) → R none h11)))))))))) ∧ (¬ (h1 r0 2 < (ft_ln (r0 + 1) : Int)) → R none h1))) ∧ (h1 (r0 + 1) z3.toNat = x1 → ((0 ≤ z3 ∧ z3 < (ft_ln (r0 + 2))) ∧ (∀ h12 : ftH, h12 = ft_hs h1 (r0 + 2) z3.toNat x3 → R none h12))))))))) : ft_V k_PS_put 0 [some (.inr (.inr r0)), some (.inr (.inl x1)), none, some (.inl x3), none] [] h R := by
  refine fv_aload_n (ft_d o_PS_put 0 rfl) rfl rfl ?_
  refine fv_lload_n (ft_d o_PS_put 1 rfl) rfl rfl ?_
  obtain ⟨R1, c2, w⟩ := w
  refine fv_calli (st := []) (Or.inl rfl) rfl (ft_mm (pre := [.inr (.inl x1), .inr (.inr r0)]) rfl) (ft_rnV (K' := k_PS_placeOf) (As := [.inr (.inl x1)]) (ft_d o_PS_put 2 rfl) ml_PS_35 li_PS_placeOf.1 li_PS_placeOf.2 lw_PS_placeOf ⟨rfl, rfl, Nat.le_of_ble_eq_true rfl, Nat.le_of_ble_eq_true rfl⟩ hr0 rfl rfl rfl rfl (Nat.le_of_ble_eq_true rfl) c2) (fun z3 h1 hz hw => ?_)
  have w := w z3 h1 hz hw
  refine fv_istore (L' := [some (.inr (.inr r0)), some (.inr (.inl x1)), none, some (.inl x3), some (.inl z3)]) (ft_d o_PS_put 3 rfl) rfl (Nat.le_of_ble_eq_true rfl) rfl ?_
  refine fv_iload (ft_d o_PS_put 4 rfl) rfl rfl ?_
  refine fv_aload_n (ft_d o_PS_put 5 rfl) rfl rfl ?_
  refine fv_getI (ft_d o_PS_put 6 rfl) rfl fl_PS_19 hr0 rfl ?_
  refine fv_icmp_ge (tgt := 37) (ft_d o_PS_put 7 rfl) rfl rfl (fun c => ?_) (fun c => ?_)
  · have w := w.1 c
    refine fv_aload_n (ft_d o_PS_put 21 rfl) rfl rfl ?_
    refine fv_getI (ft_d o_PS_put 22 rfl) rfl fl_PS_19 hr0 rfl ?_
    refine fv_aload_n (ft_d o_PS_put 23 rfl) rfl rfl ?_
    refine fv_getR (b := r0 + 1) (ft_d o_PS_put 24 rfl) rfl fl_PS_9 hr0 rfl (lyc_4_0 hr0) ?_
    refine fv_alen (ft_d o_PS_put 25 rfl) rfl (shc_4_0 hr0) (by decide) rfl (ft_ln_lt _) ?_
    refine fv_icmp_lt (tgt := 50) (ft_d o_PS_put 26 rfl) rfl rfl (fun c => ?_) (fun c => ?_)
    · have w := w.1 c
      refine fv_aload_n (ft_d o_PS_put 28 rfl) rfl rfl ?_
      refine fv_getR (b := r0 + 1) (ft_d o_PS_put 29 rfl) rfl fl_PS_9 hr0 rfl (lyc_4_0 hr0) ?_
      refine fv_iload (ft_d o_PS_put 30 rfl) rfl rfl ?_
      refine fv_aload_n (ft_d o_PS_put 31 rfl) rfl rfl ?_
      refine fv_getR (b := r0 + 1) (ft_d o_PS_put 32 rfl) rfl fl_PS_9 hr0 rfl (lyc_4_0 hr0) ?_
      refine fv_iload (ft_d o_PS_put 33 rfl) rfl rfl ?_
      refine fv_iconst (ft_d o_PS_put 34 rfl) rfl rfl ?_
      refine fv_iadd (ft_d o_PS_put 35 rfl) rfl ?_
      refine fv_aload_n (ft_d o_PS_put 36 rfl) rfl rfl ?_
      refine fv_getI (ft_d o_PS_put 37 rfl) rfl fl_PS_19 hr0 rfl ?_
      refine fv_iload (ft_d o_PS_put 38 rfl) rfl rfl ?_
      refine fv_isub (ft_d o_PS_put 39 rfl) rfl ?_
      refine fv_cpyL (ft_d o_PS_put 40 rfl) rfl ml_PS_29 (Nat.le_of_ble_eq_true rfl) (Nat.le_of_ble_eq_true rfl) (Nat.le_of_ble_eq_true rfl) (shc_4_0 hr0) (shc_4_0 hr0) w.1 ?_
      have w := w.2
      generalize eh2 : ft_cp h1 (r0 + 1) z3.toNat (r0 + 1) (ft_add z3 1).toNat (ft_sub (h1 r0 2) z3).toNat = h2
      have w := w h2 eh2.symm
      refine fv_aload_n (ft_d o_PS_put 41 rfl) rfl rfl ?_
      refine fv_getR (b := r0 + 2) (ft_d o_PS_put 42 rfl) rfl fl_PS_15 hr0 rfl (lyc_4_1 hr0) ?_
      refine fv_iload (ft_d o_PS_put 43 rfl) rfl rfl ?_
      refine fv_aload_n (ft_d o_PS_put 44 rfl) rfl rfl ?_
      refine fv_getR (b := r0 + 2) (ft_d o_PS_put 45 rfl) rfl fl_PS_15 hr0 rfl (lyc_4_1 hr0) ?_
      refine fv_iload (ft_d o_PS_put 46 rfl) rfl rfl ?_
      refine fv_iconst (ft_d o_PS_put 47 rfl) rfl rfl ?_
      refine fv_iadd (ft_d o_PS_put 48 rfl) rfl ?_
      refine fv_aload_n (ft_d o_PS_put 49 rfl) rfl rfl ?_
      refine fv_getI (ft_d o_PS_put 50 rfl) rfl fl_PS_19 hr0 rfl ?_
      refine fv_iload (ft_d o_PS_put 51 rfl) rfl rfl ?_
      refine fv_isub (ft_d o_PS_put 52 rfl) rfl ?_
      refine fv_cpyI (ft_d o_PS_put 53 rfl) rfl ml_PS_29 (Nat.le_of_ble_eq_true rfl) (Nat.le_of_ble_eq_true rfl) (Nat.le_of_ble_eq_true rfl) (shc_4_1 hr0) (shc_4_1 hr0) w.1 ?_
      have w := w.2
      generalize eh3 : ft_cp h2 (r0 + 2) z3.toNat (r0 + 2) (ft_add z3 1).toNat (ft_sub (h2 r0 2) z3).toNat = h3
      have w := w h3 eh3.symm
      refine fv_aload_n (ft_d o_PS_put 54 rfl) rfl rfl ?_
      refine fv_getR (b := r0 + 1) (ft_d o_PS_put 55 rfl) rfl fl_PS_9 hr0 rfl (lyc_4_0 hr0) ?_
      refine fv_iload (ft_d o_PS_put 56 rfl) rfl rfl ?_
      refine fv_lload_n (ft_d o_PS_put 57 rfl) rfl rfl ?_
      refine fv_last (ft_d o_PS_put 58 rfl) rfl (shc_4_0 hr0) w.1 ?_
      have w := w.2
      generalize eh4 : ft_hs h3 (r0 + 1) z3.toNat x1 = h4
      have w := w h4 eh4.symm
      refine fv_aload_n (ft_d o_PS_put 59 rfl) rfl rfl ?_
      refine fv_getR (b := r0 + 2) (ft_d o_PS_put 60 rfl) rfl fl_PS_15 hr0 rfl (lyc_4_1 hr0) ?_
      refine fv_iload (ft_d o_PS_put 61 rfl) rfl rfl ?_
      refine fv_iload_n (ft_d o_PS_put 62 rfl) rfl rfl ?_
      refine fv_iast (ft_d o_PS_put 63 rfl) rfl (shc_4_1 hr0) w.1 ?_
      have w := w.2
      generalize eh5 : ft_hs h4 (r0 + 2) z3.toNat x3 = h5
      have w := w h5 eh5.symm
      refine fv_aload_n (ft_d o_PS_put 64 rfl) rfl rfl ?_
      refine fv_dup (ft_d o_PS_put 65 rfl) rfl rfl ?_
      refine fv_getI (ft_d o_PS_put 66 rfl) rfl fl_PS_19 hr0 rfl ?_
      refine fv_iconst (ft_d o_PS_put 67 rfl) rfl rfl ?_
      refine fv_iadd (ft_d o_PS_put 68 rfl) rfl ?_
      refine fv_putI (ft_d o_PS_put 69 rfl) rfl fl_PS_19 rfl rfl hr0 rfl ?_
      generalize eh6 : ft_hs h5 r0 2 (ft_add (h5 r0 2) 1) = h6
      have w := w h6 eh6.symm
      exact fv_return (ft_d o_PS_put 70 rfl) rfl w
    · have w := w.2 c
      exact fv_return (ft_d o_PS_put 27 rfl) rfl w
  · have w := w.2 c
    refine fv_aload_n (ft_d o_PS_put 8 rfl) rfl rfl ?_
    refine fv_getR (b := r0 + 1) (ft_d o_PS_put 9 rfl) rfl fl_PS_9 hr0 rfl (lyc_4_0 hr0) ?_
    refine fv_iload (ft_d o_PS_put 10 rfl) rfl rfl ?_
    refine fv_lald (ft_d o_PS_put 11 rfl) rfl (shc_4_0 hr0) w.1 ?_
    have w := w.2
    refine fv_lload_n (ft_d o_PS_put 12 rfl) rfl rfl ?_
    refine fv_lcmp_ne (tgt := 37) (ft_d o_PS_put 13 rfl) (ft_d o_PS_put 14 rfl) rfl rfl (fun c => ?_) (fun c => ?_)
    · have w := w.1 c
      refine fv_aload_n (ft_d o_PS_put 21 rfl) rfl rfl ?_
      refine fv_getI (ft_d o_PS_put 22 rfl) rfl fl_PS_19 hr0 rfl ?_
      refine fv_aload_n (ft_d o_PS_put 23 rfl) rfl rfl ?_
      refine fv_getR (b := r0 + 1) (ft_d o_PS_put 24 rfl) rfl fl_PS_9 hr0 rfl (lyc_4_0 hr0) ?_
      refine fv_alen (ft_d o_PS_put 25 rfl) rfl (shc_4_0 hr0) (by decide) rfl (ft_ln_lt _) ?_
      refine fv_icmp_lt (tgt := 50) (ft_d o_PS_put 26 rfl) rfl rfl (fun c => ?_) (fun c => ?_)
      · have w := w.1 c
        refine fv_aload_n (ft_d o_PS_put 28 rfl) rfl rfl ?_
        refine fv_getR (b := r0 + 1) (ft_d o_PS_put 29 rfl) rfl fl_PS_9 hr0 rfl (lyc_4_0 hr0) ?_
        refine fv_iload (ft_d o_PS_put 30 rfl) rfl rfl ?_
        refine fv_aload_n (ft_d o_PS_put 31 rfl) rfl rfl ?_
        refine fv_getR (b := r0 + 1) (ft_d o_PS_put 32 rfl) rfl fl_PS_9 hr0 rfl (lyc_4_0 hr0) ?_
        refine fv_iload (ft_d o_PS_put 33 rfl) rfl rfl ?_
        refine fv_iconst (ft_d o_PS_put 34 rfl) rfl rfl ?_
        refine fv_iadd (ft_d o_PS_put 35 rfl) rfl ?_
        refine fv_aload_n (ft_d o_PS_put 36 rfl) rfl rfl ?_
        refine fv_getI (ft_d o_PS_put 37 rfl) rfl fl_PS_19 hr0 rfl ?_
        refine fv_iload (ft_d o_PS_put 38 rfl) rfl rfl ?_
        refine fv_isub (ft_d o_PS_put 39 rfl) rfl ?_
        refine fv_cpyL (ft_d o_PS_put 40 rfl) rfl ml_PS_29 (Nat.le_of_ble_eq_true rfl) (Nat.le_of_ble_eq_true rfl) (Nat.le_of_ble_eq_true rfl) (shc_4_0 hr0) (shc_4_0 hr0) w.1 ?_
        have w := w.2
        generalize eh7 : ft_cp h1 (r0 + 1) z3.toNat (r0 + 1) (ft_add z3 1).toNat (ft_sub (h1 r0 2) z3).toNat = h7
        have w := w h7 eh7.symm
        refine fv_aload_n (ft_d o_PS_put 41 rfl) rfl rfl ?_
        refine fv_getR (b := r0 + 2) (ft_d o_PS_put 42 rfl) rfl fl_PS_15 hr0 rfl (lyc_4_1 hr0) ?_
        refine fv_iload (ft_d o_PS_put 43 rfl) rfl rfl ?_
        refine fv_aload_n (ft_d o_PS_put 44 rfl) rfl rfl ?_
        refine fv_getR (b := r0 + 2) (ft_d o_PS_put 45 rfl) rfl fl_PS_15 hr0 rfl (lyc_4_1 hr0) ?_
        refine fv_iload (ft_d o_PS_put 46 rfl) rfl rfl ?_
        refine fv_iconst (ft_d o_PS_put 47 rfl) rfl rfl ?_
        refine fv_iadd (ft_d o_PS_put 48 rfl) rfl ?_
        refine fv_aload_n (ft_d o_PS_put 49 rfl) rfl rfl ?_
        refine fv_getI (ft_d o_PS_put 50 rfl) rfl fl_PS_19 hr0 rfl ?_
        refine fv_iload (ft_d o_PS_put 51 rfl) rfl rfl ?_
        refine fv_isub (ft_d o_PS_put 52 rfl) rfl ?_
        refine fv_cpyI (ft_d o_PS_put 53 rfl) rfl ml_PS_29 (Nat.le_of_ble_eq_true rfl) (Nat.le_of_ble_eq_true rfl) (Nat.le_of_ble_eq_true rfl) (shc_4_1 hr0) (shc_4_1 hr0) w.1 ?_
        have w := w.2
        generalize eh8 : ft_cp h7 (r0 + 2) z3.toNat (r0 + 2) (ft_add z3 1).toNat (ft_sub (h7 r0 2) z3).toNat = h8
        have w := w h8 eh8.symm
        refine fv_aload_n (ft_d o_PS_put 54 rfl) rfl rfl ?_
        refine fv_getR (b := r0 + 1) (ft_d o_PS_put 55 rfl) rfl fl_PS_9 hr0 rfl (lyc_4_0 hr0) ?_
        refine fv_iload (ft_d o_PS_put 56 rfl) rfl rfl ?_
        refine fv_lload_n (ft_d o_PS_put 57 rfl) rfl rfl ?_
        refine fv_last (ft_d o_PS_put 58 rfl) rfl (shc_4_0 hr0) w.1 ?_
        have w := w.2
        generalize eh9 : ft_hs h8 (r0 + 1) z3.toNat x1 = h9
        have w := w h9 eh9.symm
        refine fv_aload_n (ft_d o_PS_put 59 rfl) rfl rfl ?_
        refine fv_getR (b := r0 + 2) (ft_d o_PS_put 60 rfl) rfl fl_PS_15 hr0 rfl (lyc_4_1 hr0) ?_
        refine fv_iload (ft_d o_PS_put 61 rfl) rfl rfl ?_
        refine fv_iload_n (ft_d o_PS_put 62 rfl) rfl rfl ?_
        refine fv_iast (ft_d o_PS_put 63 rfl) rfl (shc_4_1 hr0) w.1 ?_
        have w := w.2
        generalize eh10 : ft_hs h9 (r0 + 2) z3.toNat x3 = h10
        have w := w h10 eh10.symm
        refine fv_aload_n (ft_d o_PS_put 64 rfl) rfl rfl ?_
        refine fv_dup (ft_d o_PS_put 65 rfl) rfl rfl ?_
        refine fv_getI (ft_d o_PS_put 66 rfl) rfl fl_PS_19 hr0 rfl ?_
        refine fv_iconst (ft_d o_PS_put 67 rfl) rfl rfl ?_
        refine fv_iadd (ft_d o_PS_put 68 rfl) rfl ?_
        refine fv_putI (ft_d o_PS_put 69 rfl) rfl fl_PS_19 rfl rfl hr0 rfl ?_
        generalize eh11 : ft_hs h10 r0 2 (ft_add (h10 r0 2) 1) = h11
        have w := w h11 eh11.symm
        exact fv_return (ft_d o_PS_put 70 rfl) rfl w
      · have w := w.2 c
        exact fv_return (ft_d o_PS_put 27 rfl) rfl w
    · have w := w.2 c
      refine fv_aload_n (ft_d o_PS_put 15 rfl) rfl rfl ?_
      refine fv_getR (b := r0 + 2) (ft_d o_PS_put 16 rfl) rfl fl_PS_15 hr0 rfl (lyc_4_1 hr0) ?_
      refine fv_iload (ft_d o_PS_put 17 rfl) rfl rfl ?_
      refine fv_iload_n (ft_d o_PS_put 18 rfl) rfl rfl ?_
      refine fv_iast (ft_d o_PS_put 19 rfl) rfl (shc_4_1 hr0) w.1 ?_
      have w := w.2
      generalize eh12 : ft_hs h1 (r0 + 2) z3.toNat x3 = h12
      have w := w h12 eh12.symm
      exact fv_return (ft_d o_PS_put 20 rfl) rfl w
set_option maxRecDepth 20000 in
theorem b_PS_removeAt_0 {r0 : Nat} {x1 : Int} {h : ftH} {R : Option ftV → ftH → Prop} (hr0 : ft_sh r0 = some (.inl 4))
    (w : ((x1 < 0 → R none h) ∧ (¬ (x1 < 0) → ((x1 < h r0 2 → (∀ h1 : ftH, h1 = ft_hs h r0 2 (ft_sub (h r0 2) 1) → ((0 ≤ ft_add x1 1 ∧ 0 ≤ x1 ∧ 0 ≤ ft_sub (h1 r0 2) x1 ∧ (ft_add x1 1) + (ft_sub (h1 r0 2) x1) ≤ (ft_ln (r0 + 1)) ∧ x1 + (ft_sub (h1 r0 2) x1) ≤ (ft_ln (r0 + 1))) ∧ (∀ h2 : ftH, h2 = ft_cp h1 (r0 + 1) (ft_add x1 1).toNat (r0 + 1) x1.toNat (ft_sub (h1 r0 2) x1).toNat → ((0 ≤ ft_add x1 1 ∧ 0 ≤ x1 ∧ 0 ≤ ft_sub (h2 r0 2) x1 ∧ (ft_add x1 1) + (ft_sub (h2 r0 2) x1) ≤ (ft_ln (r0 + 2)) ∧ x1 + (ft_sub (h2 r0 2) x1) ≤ (ft_ln (r0 + 2))) ∧ (∀ h3 : ftH, h3 = ft_cp h2 (r0 + 2) (ft_add x1 1).toNat (r0 + 2) x1.toNat (ft_sub (h2 r0 2) x1).toNat → R none h3)))))) ∧ (¬ (x1 < h r0 2) → R none h))))) : ft_V k_PS_removeAt 0 [some (.inr (.inr r0)), some (.inl x1)] [] h R := by
  refine fv_iload_n (ft_d o_PS_removeAt 0 rfl) rfl rfl ?_
  refine fv_if_lt (tgt := 12) (ft_d o_PS_removeAt 1 rfl) rfl rfl (fun c => ?_) (fun c => ?_)
  · have w := w.1 c
    exact fv_return (ft_d o_PS_removeAt 6 rfl) rfl w
  · have w := w.2 c
    refine fv_iload_n (ft_d o_PS_removeAt 2 rfl) rfl rfl ?_
    refine fv_aload_n (ft_d o_PS_removeAt 3 rfl) rfl rfl ?_
    refine fv_getI (ft_d o_PS_removeAt 4 rfl) rfl fl_PS_19 hr0 rfl ?_
    refine fv_icmp_lt (tgt := 13) (ft_d o_PS_removeAt 5 rfl) rfl rfl (fun c => ?_) (fun c => ?_)
    · have w := w.1 c
      refine fv_aload_n (ft_d o_PS_removeAt 7 rfl) rfl rfl ?_
      refine fv_dup (ft_d o_PS_removeAt 8 rfl) rfl rfl ?_
      refine fv_getI (ft_d o_PS_removeAt 9 rfl) rfl fl_PS_19 hr0 rfl ?_
      refine fv_iconst (ft_d o_PS_removeAt 10 rfl) rfl rfl ?_
      refine fv_isub (ft_d o_PS_removeAt 11 rfl) rfl ?_
      refine fv_putI (ft_d o_PS_removeAt 12 rfl) rfl fl_PS_19 rfl rfl hr0 rfl ?_
      generalize eh1 : ft_hs h r0 2 (ft_sub (h r0 2) 1) = h1
      have w := w h1 eh1.symm
      refine fv_aload_n (ft_d o_PS_removeAt 13 rfl) rfl rfl ?_
      refine fv_getR (b := r0 + 1) (ft_d o_PS_removeAt 14 rfl) rfl fl_PS_9 hr0 rfl (lyc_4_0 hr0) ?_
      refine fv_iload_n (ft_d o_PS_removeAt 15 rfl) rfl rfl ?_
      refine fv_iconst (ft_d o_PS_removeAt 16 rfl) rfl rfl ?_
      refine fv_iadd (ft_d o_PS_removeAt 17 rfl) rfl ?_
      refine fv_aload_n (ft_d o_PS_removeAt 18 rfl) rfl rfl ?_
      refine fv_getR (b := r0 + 1) (ft_d o_PS_removeAt 19 rfl) rfl fl_PS_9 hr0 rfl (lyc_4_0 hr0) ?_
      refine fv_iload_n (ft_d o_PS_removeAt 20 rfl) rfl rfl ?_
      refine fv_aload_n (ft_d o_PS_removeAt 21 rfl) rfl rfl ?_
      refine fv_getI (ft_d o_PS_removeAt 22 rfl) rfl fl_PS_19 hr0 rfl ?_
      refine fv_iload_n (ft_d o_PS_removeAt 23 rfl) rfl rfl ?_
      refine fv_isub (ft_d o_PS_removeAt 24 rfl) rfl ?_
      refine fv_cpyL (ft_d o_PS_removeAt 25 rfl) rfl ml_PS_29 (Nat.le_of_ble_eq_true rfl) (Nat.le_of_ble_eq_true rfl) (Nat.le_of_ble_eq_true rfl) (shc_4_0 hr0) (shc_4_0 hr0) w.1 ?_
      have w := w.2
      generalize eh2 : ft_cp h1 (r0 + 1) (ft_add x1 1).toNat (r0 + 1) x1.toNat (ft_sub (h1 r0 2) x1).toNat = h2
      have w := w h2 eh2.symm
      refine fv_aload_n (ft_d o_PS_removeAt 26 rfl) rfl rfl ?_
      refine fv_getR (b := r0 + 2) (ft_d o_PS_removeAt 27 rfl) rfl fl_PS_15 hr0 rfl (lyc_4_1 hr0) ?_
      refine fv_iload_n (ft_d o_PS_removeAt 28 rfl) rfl rfl ?_
      refine fv_iconst (ft_d o_PS_removeAt 29 rfl) rfl rfl ?_
      refine fv_iadd (ft_d o_PS_removeAt 30 rfl) rfl ?_
      refine fv_aload_n (ft_d o_PS_removeAt 31 rfl) rfl rfl ?_
      refine fv_getR (b := r0 + 2) (ft_d o_PS_removeAt 32 rfl) rfl fl_PS_15 hr0 rfl (lyc_4_1 hr0) ?_
      refine fv_iload_n (ft_d o_PS_removeAt 33 rfl) rfl rfl ?_
      refine fv_aload_n (ft_d o_PS_removeAt 34 rfl) rfl rfl ?_
      refine fv_getI (ft_d o_PS_removeAt 35 rfl) rfl fl_PS_19 hr0 rfl ?_
      refine fv_iload_n (ft_d o_PS_removeAt 36 rfl) rfl rfl ?_
      refine fv_isub (ft_d o_PS_removeAt 37 rfl) rfl ?_
      refine fv_cpyI (ft_d o_PS_removeAt 38 rfl) rfl ml_PS_29 (Nat.le_of_ble_eq_true rfl) (Nat.le_of_ble_eq_true rfl) (Nat.le_of_ble_eq_true rfl) (shc_4_1 hr0) (shc_4_1 hr0) w.1 ?_
      have w := w.2
      generalize eh3 : ft_cp h2 (r0 + 2) (ft_add x1 1).toNat (r0 + 2) x1.toNat (ft_sub (h2 r0 2) x1).toNat = h3
      have w := w h3 eh3.symm
      exact fv_return (ft_d o_PS_removeAt 39 rfl) rfl w
    · have w := w.2 c
      exact fv_return (ft_d o_PS_removeAt 6 rfl) rfl w
set_option maxRecDepth 20000 in
theorem b_PS_removeInside_0 {r0 : Nat} {x1 : Int} {h : ftH} {R : Option ftV → ftH → Prop} (hr0 : ft_sh r0 = some (.inl 4))
    (w : ft_V k_PS_removeInside 5 [some (.inr (.inr r0)), some (.inr (.inl x1)), none, some (.inl 0), some (.inl 0), none] [] h R) : ft_V k_PS_removeInside 0 [some (.inr (.inr r0)), some (.inr (.inl x1)), none, none, none, none] [] h R := by
  refine fv_iconst (ft_d o_PS_removeInside 0 rfl) rfl rfl ?_
  refine fv_istore_n (L' := [some (.inr (.inr r0)), some (.inr (.inl x1)), none, some (.inl 0), none, none]) (ft_d o_PS_removeInside 1 rfl) rfl (Nat.le_of_ble_eq_true rfl) rfl ?_
  refine fv_iconst (ft_d o_PS_removeInside 2 rfl) rfl rfl ?_
  refine fv_istore (L' := [some (.inr (.inr r0)), some (.inr (.inl x1)), none, some (.inl 0), some (.inl 0), none]) (ft_d o_PS_removeInside 3 rfl) rfl (Nat.le_of_ble_eq_true rfl) rfl ?_
  exact w
set_option maxRecDepth 20000 in
theorem b_PS_removeInside_5 {r0 : Nat} {x1 : Int} {x3 : Int} {x4 : Int} {h : ftH} {R : Option ftV → ftH → Prop} (hr0 : ft_sh r0 = some (.inl 4))
    (w : ((h r0 2 ≤ x4 → (∀ n1 : Int, n1 = ft_sub (h r0 2) x3 → (∀ h1 : ftH, h1 = ft_hs h r0 2 x3 → R (some (.inl n1)) h1))) ∧ (¬ (h r0 2 ≤ x4) → ((0 ≤ x4 ∧ x4 < (ft_ln (r0 + 1))) ∧ ((0 ≤ (h (r0 + 1) x4.toNat)) ∧ ((0 ≤ x1) ∧ (((h (r0 + 1) x4.toNat) % 64 < x1 % 64 → ((0 ≤ x4 ∧ x4 < (ft_ln (r0 + 1))) ∧ ((0 ≤ x3 ∧ x3 < (ft_ln (r0 + 1))) ∧ (∀ h2 : ftH, h2 = ft_hs h (r0 + 1) x3.toNat (h (r0 + 1) x4.toNat) → ((0 ≤ x4 ∧ x4 < (ft_ln (r0 + 2))) ∧ ((0 ≤ x3 ∧ x3 < (ft_ln (r0 + 2))) ∧ (∀ h3 : ftH, h3 = ft_hs h2 (r0 + 2) x3.toNat (h2 (r0 + 2) x4.toNat) → ft_V k_PS_removeInside 5 [some (.inr (.inr r0)), some (.inr (.inl x1)), none, some (.inl (ft_add x3 1)), some (.inl (ft_add x4 1)), none] [] h3 R))))))) ∧ (¬ ((h (r0 + 1) x4.toNat) % 64 < x1 % 64) → ((0 ≤ x4 ∧ x4 < (ft_ln (r0 + 1))) ∧ ((0 ≤ (h (r0 + 1) x4.toNat)) ∧ (((0 ≤ x1 ∧ x1 < 274877906944) ∧ x1 % 64 ≤ 32) ∧ ((¬ (x1 / 64 ≤ ((h (r0 + 1) x4.toNat) / 64) ∧ ((h (r0 + 1) x4.toNat) / 64) < x1 / 64 + pSz (x1 % 64)) → ((0 ≤ x4 ∧ x4 < (ft_ln (r0 + 1))) ∧ ((0 ≤ x3 ∧ x3 < (ft_ln (r0 + 1))) ∧ (∀ h4 : ftH, h4 = ft_hs h (r0 + 1) x3.toNat (h (r0 + 1) x4.toNat) → ((0 ≤ x4 ∧ x4 < (ft_ln (r0 + 2))) ∧ ((0 ≤ x3 ∧ x3 < (ft_ln (r0 + 2))) ∧ (∀ h5 : ftH, h5 = ft_hs h4 (r0 + 2) x3.toNat (h4 (r0 + 2) x4.toNat) → ft_V k_PS_removeInside 5 [some (.inr (.inr r0)), some (.inr (.inl x1)), none, some (.inl (ft_add x3 1)), some (.inl (ft_add x4 1)), none] [] h5 R))))))) ∧ (x1 / 64 ≤ ((h (r0 + 1) x4.toNat) / 64) ∧ ((h (r0 + 1) x4.toNat) / 64) < x1 / 64 + pSz (x1 % 64) → ft_V k_PS_removeInside 5 [some (.inr (.inr r0)), some (.inr (.inl x1)), none, some (.inl x3), some (.inl (ft_add x4 1)), none] [] h R))))))))))))) : ft_V k_PS_removeInside 5 [some (.inr (.inr r0)), some (.inr (.inl x1)), none, some (.inl x3), some (.inl x4), none] [] h R := by
  refine fv_iload (ft_d o_PS_removeInside 4 rfl) rfl rfl ?_
  refine fv_aload_n (ft_d o_PS_removeInside 5 rfl) rfl rfl ?_
  refine fv_getI (ft_d o_PS_removeInside 6 rfl) rfl fl_PS_19 hr0 rfl ?_
  refine fv_icmp_ge (tgt := 95) (ft_d o_PS_removeInside 7 rfl) rfl rfl (fun c => ?_) (fun c => ?_)
  · have w := w.1 c
    refine fv_aload_n (ft_d o_PS_removeInside 49 rfl) rfl rfl ?_
    refine fv_getI (ft_d o_PS_removeInside 50 rfl) rfl fl_PS_19 hr0 rfl ?_
    refine fv_iload_n (ft_d o_PS_removeInside 51 rfl) rfl rfl ?_
    refine fv_isub (ft_d o_PS_removeInside 52 rfl) rfl ?_
    generalize en1 : ft_sub (h r0 2) x3 = n1
    have w := w n1 en1.symm
    refine fv_istore (L' := [some (.inr (.inr r0)), some (.inr (.inl x1)), none, some (.inl x3), some (.inl n1), none]) (ft_d o_PS_removeInside 53 rfl) rfl (Nat.le_of_ble_eq_true rfl) rfl ?_
    refine fv_aload_n (ft_d o_PS_removeInside 54 rfl) rfl rfl ?_
    refine fv_iload_n (ft_d o_PS_removeInside 55 rfl) rfl rfl ?_
    refine fv_putI (ft_d o_PS_removeInside 56 rfl) rfl fl_PS_19 rfl rfl hr0 rfl ?_
    generalize eh1 : ft_hs h r0 2 x3 = h1
    have w := w h1 eh1.symm
    refine fv_iload (ft_d o_PS_removeInside 57 rfl) rfl rfl ?_
    exact fv_ireturn (ft_d o_PS_removeInside 58 rfl) rfl w
  · have w := w.2 c
    refine fv_aload_n (ft_d o_PS_removeInside 8 rfl) rfl rfl ?_
    refine fv_getR (b := r0 + 1) (ft_d o_PS_removeInside 9 rfl) rfl fl_PS_9 hr0 rfl (lyc_4_0 hr0) ?_
    refine fv_iload (ft_d o_PS_removeInside 10 rfl) rfl rfl ?_
    refine fv_lald (ft_d o_PS_removeInside 11 rfl) rfl (shc_4_0 hr0) w.1 ?_
    have w := w.2
    refine fv_callif (st := []) (z := (h (r0 + 1) x4.toNat) % 64) (Or.inl rfl) rfl (ft_mm (pre := [.inr (.inl (h (r0 + 1) x4.toNat))]) rfl) (ft_rnSN (K' := k_FT_lengthOf) (As := [.inr (.inl (h (r0 + 1) x4.toNat))]) (host := "ForwardingTable") (ft_d o_PS_removeInside 12 rfl) (by decide) lz_FT_lengthOf lw_FT_lengthOf ⟨rfl, rfl, Nat.le_of_ble_eq_true rfl, Nat.le_of_ble_eq_true rfl⟩ rfl rfl (Nat.le_of_ble_eq_true rfl) (c_FT_lengthOf w.1)) ?_
    have w := w.2
    refine fv_lload_n (ft_d o_PS_removeInside 13 rfl) rfl rfl ?_
    refine fv_callif (st := [.inl ((h (r0 + 1) x4.toNat) % 64)]) (z := x1 % 64) (Or.inl rfl) rfl (ft_mm (pre := [.inr (.inl x1)]) rfl) (ft_rnSN (K' := k_FT_lengthOf) (As := [.inr (.inl x1)]) (host := "ForwardingTable") (ft_d o_PS_removeInside 14 rfl) (by decide) lz_FT_lengthOf lw_FT_lengthOf ⟨rfl, rfl, Nat.le_of_ble_eq_true rfl, Nat.le_of_ble_eq_true rfl⟩ rfl rfl (Nat.le_of_ble_eq_true rfl) (c_FT_lengthOf w.1)) ?_
    have w := w.2
    refine fv_icmp_lt (tgt := 52) (ft_d o_PS_removeInside 15 rfl) rfl rfl (fun c => ?_) (fun c => ?_)
    · have w := w.1 c
      refine fv_iconst (ft_d o_PS_removeInside 26 rfl) rfl rfl ?_
      refine fv_istore (L' := [some (.inr (.inr r0)), some (.inr (.inl x1)), none, some (.inl x3), some (.inl x4), some (.inl 0)]) (ft_d o_PS_removeInside 27 rfl) rfl (Nat.le_of_ble_eq_true rfl) rfl ?_
      refine fv_iload (ft_d o_PS_removeInside 28 rfl) rfl rfl ?_
      refine fv_if_ne (tgt := 89) (ft_d o_PS_removeInside 29 rfl) rfl rfl (fun c => absurd (by decide) c) (fun c => ?_)
      refine fv_aload_n (ft_d o_PS_removeInside 30 rfl) rfl rfl ?_
      refine fv_getR (b := r0 + 1) (ft_d o_PS_removeInside 31 rfl) rfl fl_PS_9 hr0 rfl (lyc_4_0 hr0) ?_
      refine fv_iload_n (ft_d o_PS_removeInside 32 rfl) rfl rfl ?_
      refine fv_aload_n (ft_d o_PS_removeInside 33 rfl) rfl rfl ?_
      refine fv_getR (b := r0 + 1) (ft_d o_PS_removeInside 34 rfl) rfl fl_PS_9 hr0 rfl (lyc_4_0 hr0) ?_
      refine fv_iload (ft_d o_PS_removeInside 35 rfl) rfl rfl ?_
      refine fv_lald (ft_d o_PS_removeInside 36 rfl) rfl (shc_4_0 hr0) w.1 ?_
      have w := w.2
      refine fv_last (ft_d o_PS_removeInside 37 rfl) rfl (shc_4_0 hr0) w.1 ?_
      have w := w.2
      generalize eh2 : ft_hs h (r0 + 1) x3.toNat (h (r0 + 1) x4.toNat) = h2
      have w := w h2 eh2.symm
      refine fv_aload_n (ft_d o_PS_removeInside 38 rfl) rfl rfl ?_
      refine fv_getR (b := r0 + 2) (ft_d o_PS_removeInside 39 rfl) rfl fl_PS_15 hr0 rfl (lyc_4_1 hr0) ?_
      refine fv_iload_n (ft_d o_PS_removeInside 40 rfl) rfl rfl ?_
      refine fv_aload_n (ft_d o_PS_removeInside 41 rfl) rfl rfl ?_
      refine fv_getR (b := r0 + 2) (ft_d o_PS_removeInside 42 rfl) rfl fl_PS_15 hr0 rfl (lyc_4_1 hr0) ?_
      refine fv_iload (ft_d o_PS_removeInside 43 rfl) rfl rfl ?_
      refine fv_iald (ft_d o_PS_removeInside 44 rfl) rfl (shc_4_1 hr0) w.1 ?_
      have w := w.2
      refine fv_iast (ft_d o_PS_removeInside 45 rfl) rfl (shc_4_1 hr0) w.1 ?_
      have w := w.2
      generalize eh3 : ft_hs h2 (r0 + 2) x3.toNat (h2 (r0 + 2) x4.toNat) = h3
      have w := w h3 eh3.symm
      refine fv_iinc (L' := [some (.inr (.inr r0)), some (.inr (.inl x1)), none, some (.inl (ft_add x3 1)), some (.inl x4), some (.inl 0)]) (ft_d o_PS_removeInside 46 rfl) rfl rfl (Nat.le_of_ble_eq_true rfl) rfl ?_
      refine fv_iinc (L' := [some (.inr (.inr r0)), some (.inr (.inl x1)), none, some (.inl (ft_add x3 1)), some (.inl (ft_add x4 1)), some (.inl 0)]) (ft_d o_PS_removeInside 47 rfl) rfl rfl (Nat.le_of_ble_eq_true rfl) rfl ?_
      refine fv_goto (pc' := 5) (ft_d o_PS_removeInside 48 rfl) rfl ?_
      refine fv_mask (M := [true, true, false, true, true, false]) rfl ?_
      exact w
    · have w := w.2 c
      refine fv_lload_n (ft_d o_PS_removeInside 16 rfl) rfl rfl ?_
      refine fv_aload_n (ft_d o_PS_removeInside 17 rfl) rfl rfl ?_
      refine fv_getR (b := r0 + 1) (ft_d o_PS_removeInside 18 rfl) rfl fl_PS_9 hr0 rfl (lyc_4_0 hr0) ?_
      refine fv_iload (ft_d o_PS_removeInside 19 rfl) rfl rfl ?_
      refine fv_lald (ft_d o_PS_removeInside 20 rfl) rfl (shc_4_0 hr0) w.1 ?_
      have w := w.2
      refine fv_calllf (st := [.inr (.inl x1)]) (z := (h (r0 + 1) x4.toNat) / 64) rfl rfl (ft_mm (pre := [.inr (.inl (h (r0 + 1) x4.toNat))]) rfl) (ft_rnSN (K' := k_FT_startOf) (As := [.inr (.inl (h (r0 + 1) x4.toNat))]) (host := "ForwardingTable") (ft_d o_PS_removeInside 21 rfl) (by decide) lz_FT_startOf lw_FT_startOf ⟨rfl, rfl, Nat.le_of_ble_eq_true rfl, Nat.le_of_ble_eq_true rfl⟩ rfl rfl (Nat.le_of_ble_eq_true rfl) (c_FT_startOf w.1)) ?_
      have w := w.2
      refine fv_callif (st := []) (z := (if x1 / 64 ≤ ((h (r0 + 1) x4.toNat) / 64) ∧ ((h (r0 + 1) x4.toNat) / 64) < x1 / 64 + pSz (x1 % 64) then 1 else 0)) (Or.inr rfl) rfl (ft_mm (pre := [.inr (.inl ((h (r0 + 1) x4.toNat) / 64)), .inr (.inl x1)]) rfl) (ft_rnSN (K' := k_FT_contains) (As := [.inr (.inl x1), .inr (.inl ((h (r0 + 1) x4.toNat) / 64))]) (host := "ForwardingTable") (ft_d o_PS_removeInside 22 rfl) (by decide) lz_FT_contains lw_FT_contains ⟨rfl, rfl, Nat.le_of_ble_eq_true rfl, Nat.le_of_ble_eq_true rfl⟩ rfl rfl (Nat.le_of_ble_eq_true rfl) (c_FT_contains w.1)) ?_
      have w := w.2
      refine fv_if_eq (tgt := 52) (ft_d o_PS_removeInside 23 rfl) rfl rfl (fun c => ?_) (fun c => ?_)
      · have w := w.1 (ft_if0.mp c)
        refine fv_iconst (ft_d o_PS_removeInside 26 rfl) rfl rfl ?_
        refine fv_istore (L' := [some (.inr (.inr r0)), some (.inr (.inl x1)), none, some (.inl x3), some (.inl x4), some (.inl 0)]) (ft_d o_PS_removeInside 27 rfl) rfl (Nat.le_of_ble_eq_true rfl) rfl ?_
        refine fv_iload (ft_d o_PS_removeInside 28 rfl) rfl rfl ?_
        refine fv_if_ne (tgt := 89) (ft_d o_PS_removeInside 29 rfl) rfl rfl (fun c => absurd (by decide) c) (fun c => ?_)
        refine fv_aload_n (ft_d o_PS_removeInside 30 rfl) rfl rfl ?_
        refine fv_getR (b := r0 + 1) (ft_d o_PS_removeInside 31 rfl) rfl fl_PS_9 hr0 rfl (lyc_4_0 hr0) ?_
        refine fv_iload_n (ft_d o_PS_removeInside 32 rfl) rfl rfl ?_
        refine fv_aload_n (ft_d o_PS_removeInside 33 rfl) rfl rfl ?_
        refine fv_getR (b := r0 + 1) (ft_d o_PS_removeInside 34 rfl) rfl fl_PS_9 hr0 rfl (lyc_4_0 hr0) ?_
        refine fv_iload (ft_d o_PS_removeInside 35 rfl) rfl rfl ?_
        refine fv_lald (ft_d o_PS_removeInside 36 rfl) rfl (shc_4_0 hr0) w.1 ?_
        have w := w.2
        refine fv_last (ft_d o_PS_removeInside 37 rfl) rfl (shc_4_0 hr0) w.1 ?_
        have w := w.2
        generalize eh4 : ft_hs h (r0 + 1) x3.toNat (h (r0 + 1) x4.toNat) = h4
        have w := w h4 eh4.symm
        refine fv_aload_n (ft_d o_PS_removeInside 38 rfl) rfl rfl ?_
        refine fv_getR (b := r0 + 2) (ft_d o_PS_removeInside 39 rfl) rfl fl_PS_15 hr0 rfl (lyc_4_1 hr0) ?_
        refine fv_iload_n (ft_d o_PS_removeInside 40 rfl) rfl rfl ?_
        refine fv_aload_n (ft_d o_PS_removeInside 41 rfl) rfl rfl ?_
        refine fv_getR (b := r0 + 2) (ft_d o_PS_removeInside 42 rfl) rfl fl_PS_15 hr0 rfl (lyc_4_1 hr0) ?_
        refine fv_iload (ft_d o_PS_removeInside 43 rfl) rfl rfl ?_
        refine fv_iald (ft_d o_PS_removeInside 44 rfl) rfl (shc_4_1 hr0) w.1 ?_
        have w := w.2
        refine fv_iast (ft_d o_PS_removeInside 45 rfl) rfl (shc_4_1 hr0) w.1 ?_
        have w := w.2
        generalize eh5 : ft_hs h4 (r0 + 2) x3.toNat (h4 (r0 + 2) x4.toNat) = h5
        have w := w h5 eh5.symm
        refine fv_iinc (L' := [some (.inr (.inr r0)), some (.inr (.inl x1)), none, some (.inl (ft_add x3 1)), some (.inl x4), some (.inl 0)]) (ft_d o_PS_removeInside 46 rfl) rfl rfl (Nat.le_of_ble_eq_true rfl) rfl ?_
        refine fv_iinc (L' := [some (.inr (.inr r0)), some (.inr (.inl x1)), none, some (.inl (ft_add x3 1)), some (.inl (ft_add x4 1)), some (.inl 0)]) (ft_d o_PS_removeInside 47 rfl) rfl rfl (Nat.le_of_ble_eq_true rfl) rfl ?_
        refine fv_goto (pc' := 5) (ft_d o_PS_removeInside 48 rfl) rfl ?_
        refine fv_mask (M := [true, true, false, true, true, false]) rfl ?_
        exact w
      · have w := w.2 (ft_if1.mp c)
        refine fv_iconst (ft_d o_PS_removeInside 24 rfl) rfl rfl ?_
        refine fv_goto (pc' := 53) (ft_d o_PS_removeInside 25 rfl) rfl ?_
        refine fv_istore (L' := [some (.inr (.inr r0)), some (.inr (.inl x1)), none, some (.inl x3), some (.inl x4), some (.inl 1)]) (ft_d o_PS_removeInside 27 rfl) rfl (Nat.le_of_ble_eq_true rfl) rfl ?_
        refine fv_iload (ft_d o_PS_removeInside 28 rfl) rfl rfl ?_
        refine fv_if_ne (tgt := 89) (ft_d o_PS_removeInside 29 rfl) rfl rfl (fun c => ?_) (fun c => absurd c (by decide))
        refine fv_iinc (L' := [some (.inr (.inr r0)), some (.inr (.inl x1)), none, some (.inl x3), some (.inl (ft_add x4 1)), some (.inl 1)]) (ft_d o_PS_removeInside 47 rfl) rfl rfl (Nat.le_of_ble_eq_true rfl) rfl ?_
        refine fv_goto (pc' := 5) (ft_d o_PS_removeInside 48 rfl) rfl ?_
        refine fv_mask (M := [true, true, false, true, true, false]) rfl ?_
        exact w
set_option maxRecDepth 20000 in
theorem b_PS_hasProperlyAround_0 {r0 : Nat} {x1 : Int} {h : ftH} {R : Option ftV → ftH → Prop} (hr0 : ft_sh r0 = some (.inl 4))
    (w : ft_V k_PS_hasProperlyAround 2 [some (.inr (.inr r0)), some (.inr (.inl x1)), none, some (.inl 0)] [] h R) : ft_V k_PS_hasProperlyAround 0 [some (.inr (.inr r0)), some (.inr (.inl x1)), none, none] [] h R := by
  refine fv_iconst (ft_d o_PS_hasProperlyAround 0 rfl) rfl rfl ?_
  refine fv_istore_n (L' := [some (.inr (.inr r0)), some (.inr (.inl x1)), none, some (.inl 0)]) (ft_d o_PS_hasProperlyAround 1 rfl) rfl (Nat.le_of_ble_eq_true rfl) rfl ?_
  exact w
set_option maxRecDepth 20000 in
theorem b_PS_hasProperlyAround_2 {r0 : Nat} {x1 : Int} {x3 : Int} {h : ftH} {R : Option ftV → ftH → Prop} (hr0 : ft_sh r0 = some (.inl 4))
    (w : ((h r0 2 ≤ x3 → R (some (.inl 0)) h) ∧ (¬ (h r0 2 ≤ x3) → ((0 ≤ x3 ∧ x3 < (ft_ln (r0 + 1))) ∧ ((0 ≤ (h (r0 + 1) x3.toNat)) ∧ ((0 ≤ x1) ∧ ((x1 % 64 ≤ (h (r0 + 1) x3.toNat) % 64 → ft_V k_PS_hasProperlyAround 2 [some (.inr (.inr r0)), some (.inr (.inl x1)), none, some (.inl (ft_add x3 1))] [] h R) ∧ (¬ (x1 % 64 ≤ (h (r0 + 1) x3.toNat) % 64) → ((0 ≤ x3 ∧ x3 < (ft_ln (r0 + 1))) ∧ ((0 ≤ x1) ∧ (((0 ≤ (h (r0 + 1) x3.toNat) ∧ (h (r0 + 1) x3.toNat) < 274877906944) ∧ (h (r0 + 1) x3.toNat) % 64 ≤ 32) ∧ ((¬ ((h (r0 + 1) x3.toNat) / 64 ≤ (x1 / 64) ∧ (x1 / 64) < (h (r0 + 1) x3.toNat) / 64 + pSz ((h (r0 + 1) x3.toNat) % 64)) → ft_V k_PS_hasProperlyAround 2 [some (.inr (.inr r0)), some (.inr (.inl x1)), none, some (.inl (ft_add x3 1))] [] h R) ∧ ((h (r0 + 1) x3.toNat) / 64 ≤ (x1 / 64) ∧ (x1 / 64) < (h (r0 + 1) x3.toNat) / 64 + pSz ((h (r0 + 1) x3.toNat) % 64) → R (some (.inl 1)) h))))))))))))) : ft_V k_PS_hasProperlyAround 2 [some (.inr (.inr r0)), some (.inr (.inl x1)), none, some (.inl x3)] [] h R := by
  refine fv_iload_n (ft_d o_PS_hasProperlyAround 2 rfl) rfl rfl ?_
  refine fv_aload_n (ft_d o_PS_hasProperlyAround 3 rfl) rfl rfl ?_
  refine fv_getI (ft_d o_PS_hasProperlyAround 4 rfl) rfl fl_PS_19 hr0 rfl ?_
  refine fv_icmp_ge (tgt := 50) (ft_d o_PS_hasProperlyAround 5 rfl) rfl rfl (fun c => ?_) (fun c => ?_)
  · have w := w.1 c
    refine fv_iconst (ft_d o_PS_hasProperlyAround 26 rfl) rfl rfl ?_
    exact fv_zreturn (ft_d o_PS_hasProperlyAround 27 rfl) rfl (Or.inl rfl) w
  · have w := w.2 c
    refine fv_aload_n (ft_d o_PS_hasProperlyAround 6 rfl) rfl rfl ?_
    refine fv_getR (b := r0 + 1) (ft_d o_PS_hasProperlyAround 7 rfl) rfl fl_PS_9 hr0 rfl (lyc_4_0 hr0) ?_
    refine fv_iload_n (ft_d o_PS_hasProperlyAround 8 rfl) rfl rfl ?_
    refine fv_lald (ft_d o_PS_hasProperlyAround 9 rfl) rfl (shc_4_0 hr0) w.1 ?_
    have w := w.2
    refine fv_callif (st := []) (z := (h (r0 + 1) x3.toNat) % 64) (Or.inl rfl) rfl (ft_mm (pre := [.inr (.inl (h (r0 + 1) x3.toNat))]) rfl) (ft_rnSN (K' := k_FT_lengthOf) (As := [.inr (.inl (h (r0 + 1) x3.toNat))]) (host := "ForwardingTable") (ft_d o_PS_hasProperlyAround 10 rfl) (by decide) lz_FT_lengthOf lw_FT_lengthOf ⟨rfl, rfl, Nat.le_of_ble_eq_true rfl, Nat.le_of_ble_eq_true rfl⟩ rfl rfl (Nat.le_of_ble_eq_true rfl) (c_FT_lengthOf w.1)) ?_
    have w := w.2
    refine fv_lload_n (ft_d o_PS_hasProperlyAround 11 rfl) rfl rfl ?_
    refine fv_callif (st := [.inl ((h (r0 + 1) x3.toNat) % 64)]) (z := x1 % 64) (Or.inl rfl) rfl (ft_mm (pre := [.inr (.inl x1)]) rfl) (ft_rnSN (K' := k_FT_lengthOf) (As := [.inr (.inl x1)]) (host := "ForwardingTable") (ft_d o_PS_hasProperlyAround 12 rfl) (by decide) lz_FT_lengthOf lw_FT_lengthOf ⟨rfl, rfl, Nat.le_of_ble_eq_true rfl, Nat.le_of_ble_eq_true rfl⟩ rfl rfl (Nat.le_of_ble_eq_true rfl) (c_FT_lengthOf w.1)) ?_
    have w := w.2
    refine fv_icmp_ge (tgt := 44) (ft_d o_PS_hasProperlyAround 13 rfl) rfl rfl (fun c => ?_) (fun c => ?_)
    · have w := w.1 c
      refine fv_iinc (L' := [some (.inr (.inr r0)), some (.inr (.inl x1)), none, some (.inl (ft_add x3 1))]) (ft_d o_PS_hasProperlyAround 24 rfl) rfl rfl (Nat.le_of_ble_eq_true rfl) rfl ?_
      refine fv_goto (pc' := 2) (ft_d o_PS_hasProperlyAround 25 rfl) rfl ?_
      exact w
    · have w := w.2 c
      refine fv_aload_n (ft_d o_PS_hasProperlyAround 14 rfl) rfl rfl ?_
      refine fv_getR (b := r0 + 1) (ft_d o_PS_hasProperlyAround 15 rfl) rfl fl_PS_9 hr0 rfl (lyc_4_0 hr0) ?_
      refine fv_iload_n (ft_d o_PS_hasProperlyAround 16 rfl) rfl rfl ?_
      refine fv_lald (ft_d o_PS_hasProperlyAround 17 rfl) rfl (shc_4_0 hr0) w.1 ?_
      have w := w.2
      refine fv_lload_n (ft_d o_PS_hasProperlyAround 18 rfl) rfl rfl ?_
      refine fv_calllf (st := [.inr (.inl (h (r0 + 1) x3.toNat))]) (z := x1 / 64) rfl rfl (ft_mm (pre := [.inr (.inl x1)]) rfl) (ft_rnSN (K' := k_FT_startOf) (As := [.inr (.inl x1)]) (host := "ForwardingTable") (ft_d o_PS_hasProperlyAround 19 rfl) (by decide) lz_FT_startOf lw_FT_startOf ⟨rfl, rfl, Nat.le_of_ble_eq_true rfl, Nat.le_of_ble_eq_true rfl⟩ rfl rfl (Nat.le_of_ble_eq_true rfl) (c_FT_startOf w.1)) ?_
      have w := w.2
      refine fv_callif (st := []) (z := (if (h (r0 + 1) x3.toNat) / 64 ≤ (x1 / 64) ∧ (x1 / 64) < (h (r0 + 1) x3.toNat) / 64 + pSz ((h (r0 + 1) x3.toNat) % 64) then 1 else 0)) (Or.inr rfl) rfl (ft_mm (pre := [.inr (.inl (x1 / 64)), .inr (.inl (h (r0 + 1) x3.toNat))]) rfl) (ft_rnSN (K' := k_FT_contains) (As := [.inr (.inl (h (r0 + 1) x3.toNat)), .inr (.inl (x1 / 64))]) (host := "ForwardingTable") (ft_d o_PS_hasProperlyAround 20 rfl) (by decide) lz_FT_contains lw_FT_contains ⟨rfl, rfl, Nat.le_of_ble_eq_true rfl, Nat.le_of_ble_eq_true rfl⟩ rfl rfl (Nat.le_of_ble_eq_true rfl) (c_FT_contains w.1)) ?_
      have w := w.2
      refine fv_if_eq (tgt := 44) (ft_d o_PS_hasProperlyAround 21 rfl) rfl rfl (fun c => ?_) (fun c => ?_)
      · have w := w.1 (ft_if0.mp c)
        refine fv_iinc (L' := [some (.inr (.inr r0)), some (.inr (.inl x1)), none, some (.inl (ft_add x3 1))]) (ft_d o_PS_hasProperlyAround 24 rfl) rfl rfl (Nat.le_of_ble_eq_true rfl) rfl ?_
        refine fv_goto (pc' := 2) (ft_d o_PS_hasProperlyAround 25 rfl) rfl ?_
        exact w
      · have w := w.2 (ft_if1.mp c)
        refine fv_iconst (ft_d o_PS_hasProperlyAround 22 rfl) rfl rfl ?_
        exact fv_zreturn (ft_d o_PS_hasProperlyAround 23 rfl) rfl (Or.inr rfl) w
