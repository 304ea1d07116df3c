/-! printed by wip/whole/gen/gen10.py: what must hold at each cut point -/
set_option maxRecDepth 20000 in
theorem b_Cv_sweep_0 {r0 : Nat} {r1 : Nat} {h : ftH} {R : Option ftV → ftH → Prop} (hr0 : ft_sh r0 = some (.inl 2)) (hr1 : ft_sh r1 = some (.inl 4))
    (w : (∀ h1 : ftH, h1 = ft_hs h r0 5 0 → (∀ h2 : ftH, h2 = ft_hs h1 r0 6 0 → (∀ h3 : ftH, h3 = ft_hs h2 r0 8 0 → (∀ h4 : ftH, h4 = ft_hs h3 r0 9 0 → ft_V k_Cv_sweep 22 [some (.inr (.inr r0)), some (.inr (.inr r1)), some (.inl 0), none, none] [] h4 R))))) : ft_V k_Cv_sweep 0 [some (.inr (.inr r0)), some (.inr (.inr r1)), none, none, none] [] h R := by
  refine fv_aload_n (ft_d o_Cv_sweep 0 rfl) rfl rfl ?_
  refine fv_iconst (ft_d o_Cv_sweep 1 rfl) rfl rfl ?_
  refine fv_putI (ft_d o_Cv_sweep 2 rfl) rfl fl_Cv_31 rfl rfl hr0 rfl ?_
  generalize eh1 : ft_hs h r0 5 0 = h1
  have w := w h1 eh1.symm
  refine fv_aload_n (ft_d o_Cv_sweep 3 rfl) rfl rfl ?_
  refine fv_iconst (ft_d o_Cv_sweep 4 rfl) rfl rfl ?_
  refine fv_putI (ft_d o_Cv_sweep 5 rfl) rfl fl_Cv_35 rfl rfl hr0 rfl ?_
  generalize eh2 : ft_hs h1 r0 6 0 = h2
  have w := w h2 eh2.symm
  refine fv_aload_n (ft_d o_Cv_sweep 6 rfl) rfl rfl ?_
  refine fv_iconst (ft_d o_Cv_sweep 7 rfl) rfl rfl ?_
  refine fv_putI (ft_d o_Cv_sweep 8 rfl) rfl fl_Cv_38 rfl rfl hr0 rfl ?_
  generalize eh3 : ft_hs h2 r0 8 0 = h3
  have w := w h3 eh3.symm
  refine fv_aload_n (ft_d o_Cv_sweep 9 rfl) rfl rfl ?_
  refine fv_lconst (z := 0) (ft_d o_Cv_sweep 10 rfl) rfl rfl ?_
  refine fv_putL (ft_d o_Cv_sweep 11 rfl) rfl fl_Cv_41 rfl rfl hr0 rfl ?_
  generalize eh4 : ft_hs h3 r0 9 0 = h4
  have w := w h4 eh4.symm
  refine fv_iconst (ft_d o_Cv_sweep 12 rfl) rfl rfl ?_
  refine fv_istore_n (L' := [some (.inr (.inr r0)), some (.inr (.inr r1)), some (.inl 0), none, none]) (ft_d o_Cv_sweep 13 rfl) rfl (Nat.le_of_ble_eq_true rfl) rfl ?_
  exact w
set_option maxRecDepth 20000 in
theorem b_Cv_sweep_22 {r0 : Nat} {r1 : Nat} {x2 : Int} {h : ftH} {R : Option ftV → ftH → Prop} (hr0 : ft_sh r0 = some (.inl 2)) (hr1 : ft_sh r1 = some (.inl 4))
    (w : ((h r1 2 ≤ x2 → (∃ R1 : Option ftV → ftH → Prop, ft_C k_Cv_leaveUpTo [.inr (.inr r0), .inr (.inl 4294967296), .inr (.inr r1)] h R1 ∧ ∀ h1 : ftH, R1 none h1 → (∃ R3 : Option ftV → ftH → Prop, ft_C k_Cv_walkTo [.inr (.inr r0), .inr (.inl 4294967296), .inr (.inr r1)] h1 R3 ∧ ∀ h2 : ftH, R3 none h2 → R none h2))) ∧ (¬ (h r1 2 ≤ x2) → (((ft_ln (r0 + 2) : Int) ≤ x2 → (∃ R5 : Option ftV → ftH → Prop, ft_C k_Cv_leaveUpTo [.inr (.inr r0), .inr (.inl 4294967296), .inr (.inr r1)] h R5 ∧ ∀ h3 : ftH, R5 none h3 → (∃ R7 : Option ftV → ftH → Prop, ft_C k_Cv_walkTo [.inr (.inr r0), .inr (.inl 4294967296), .inr (.inr r1)] h3 R7 ∧ ∀ h4 : ftH, R7 none h4 → R none h4))) ∧ (¬ ((ft_ln (r0 + 2) : Int) ≤ x2) → ((0 ≤ x2 ∧ x2 < (ft_ln (r1 + 1))) ∧ ((0 ≤ (h (r1 + 1) x2.toNat)) ∧ (∀ n11 : Int, n11 = (h (r1 + 1) x2.toNat) / 64 → (∃ R12 : Option ftV → ftH → Prop, ft_C k_Cv_leaveUpTo [.inr (.inr r0), .inr (.inl n11), .inr (.inr r1)] h R12 ∧ ∀ h5 : ftH, R12 none h5 → (∃ R14 : Option ftV → ftH → Prop, ft_C k_Cv_walkTo [.inr (.inr r0), .inr (.inl n11), .inr (.inr r1)] h5 R14 ∧ ∀ h6 : ftH, R14 none h6 → ((h6 r0 8 ≤ 33) ∧ ((0 ≤ x2 ∧ x2 < (ft_ln (r0 + 2))) ∧ (∀ h7 : ftH, h7 = ft_hs h6 (r0 + 2) x2.toNat ((if 0 < h6 r0 8 then h6 (r0 + 1) (h6 r0 8 - 1).toNat else (-1))) → ((0 ≤ x2 ∧ x2 < (ft_ln (r0 + 3))) ∧ (∀ h8 : ftH, h8 = ft_hs h7 (r0 + 3) x2.toNat (h7 r0 8) → ((0 ≤ x2 ∧ x2 < (ft_ln (r0 + 4))) ∧ (∀ h9 : ftH, h9 = ft_hs h8 (r0 + 4) x2.toNat 0 → ((33 ≤ h9 r0 8 → (∀ h10 : ftH, h10 = ft_hs h9 r0 6 (max (h9 r0 6) (h9 r0 8)) → ft_V k_Cv_sweep 22 [some (.inr (.inr r0)), some (.inr (.inr r1)), some (.inl (ft_add x2 1)), none, none] [] h10 R)) ∧ (¬ (33 ≤ h9 r0 8) → ((0 ≤ h9 r0 8 ∧ h9 r0 8 < 33) ∧ (∀ h11 : ftH, h11 = ft_hs h9 (r0 + 1) (h9 r0 8).toNat x2 → (∀ h12 : ftH, h12 = ft_hs h11 r0 8 (ft_add (h11 r0 8) 1) → (∀ h13 : ftH, h13 = ft_hs h12 r0 6 (max (h12 r0 6) (h12 r0 8)) → ft_V k_Cv_sweep 22 [some (.inr (.inr r0)), some (.inr (.inr r1)), some (.inl (ft_add x2 1)), none, none] [] h13 R))))))))))))))))))))))) : ft_V k_Cv_sweep 22 [some (.inr (.inr r0)), some (.inr (.inr r1)), some (.inl x2), none, none] [] h R := by
  refine fv_iload_n (ft_d o_Cv_sweep 14 rfl) rfl rfl ?_
  refine fv_aload_n (ft_d o_Cv_sweep 15 rfl) rfl rfl ?_
  refine fv_getI (ft_d o_Cv_sweep 16 rfl) rfl fl_Cv_45 hr1 rfl ?_
  refine fv_icmp_ge (tgt := 141) (ft_d o_Cv_sweep 17 rfl) rfl rfl (fun c => ?_) (fun c => ?_)
  · have w := w.1 c
    refine fv_aload_n (ft_d o_Cv_sweep 81 rfl) rfl rfl ?_
    refine fv_ldc2 (v := 4294967296) (z := 4294967296) (ft_d o_Cv_sweep 82 rfl) rfl (ft_gt 664 (by decide +kernel) rfl) rfl ?_
    refine fv_aload_n (ft_d o_Cv_sweep 83 rfl) rfl rfl ?_
    obtain ⟨R1, c2, w⟩ := w
    refine fv_callv (st := []) rfl rfl (ft_mm (pre := [.inr (.inr r1), .inr (.inl 4294967296), .inr (.inr r0)]) rfl) (ft_rnV (K' := k_Cv_leaveUpTo) (As := [.inr (.inl 4294967296), .inr (.inr r1)]) (ft_d o_Cv_sweep 84 rfl) ml_Cv_57 li_Cv_leaveUpTo.1 li_Cv_leaveUpTo.2 lw_Cv_leaveUpTo ⟨rfl, rfl, Nat.le_of_ble_eq_true rfl, Nat.le_of_ble_eq_true rfl⟩ hr0 rfl rfl rfl rfl (Nat.le_of_ble_eq_true rfl) c2) (fun h1 hw => ?_)
    have w := w h1 hw
    refine fv_aload_n (ft_d o_Cv_sweep 85 rfl) rfl rfl ?_
    refine fv_ldc2 (v := 4294967296) (z := 4294967296) (ft_d o_Cv_sweep 86 rfl) rfl (ft_gt 664 (by decide +kernel) rfl) rfl ?_
    refine fv_aload_n (ft_d o_Cv_sweep 87 rfl) rfl rfl ?_
    obtain ⟨R3, c4, w⟩ := w
    refine fv_callv (st := []) rfl rfl (ft_mm (pre := [.inr (.inr r1), .inr (.inl 4294967296), .inr (.inr r0)]) rfl) (ft_rnV (K' := k_Cv_walkTo) (As := [.inr (.inl 4294967296), .inr (.inr r1)]) (ft_d o_Cv_sweep 88 rfl) ml_Cv_61 li_Cv_walkTo.1 li_Cv_walkTo.2 lw_Cv_walkTo ⟨rfl, rfl, Nat.le_of_ble_eq_true rfl, Nat.le_of_ble_eq_true rfl⟩ hr0 rfl rfl rfl rfl (Nat.le_of_ble_eq_true rfl) c4) (fun h2 hw => ?_)
    have w := w h2 hw
    exact fv_return (ft_d o_Cv_sweep 89 rfl) rfl w
  · have w := w.2 c
    refine fv_iload_n (ft_d o_Cv_sweep 18 rfl) rfl rfl ?_
    refine fv_aload_n (ft_d o_Cv_sweep 19 rfl) rfl rfl ?_
    refine fv_getR (b := r0 + 2) (ft_d o_Cv_sweep 20 rfl) rfl fl_Cv_15 hr0 rfl (lyc_2_0 hr0) ?_
    refine fv_alen (ft_d o_Cv_sweep 21 rfl) rfl (shc_2_0 hr0) (by decide) rfl (ft_ln_lt _) ?_
    refine fv_icmp_ge (tgt := 141) (ft_d o_Cv_sweep 22 rfl) rfl rfl (fun c => ?_) (fun c => ?_)
    · have w := w.1 c
      refine fv_aload_n (ft_d o_Cv_sweep 81 rfl) rfl rfl ?_
      refine fv_ldc2 (v := 4294967296) (z := 4294967296) (ft_d o_Cv_sweep 82 rfl) rfl (ft_gt 664 (by decide +kernel) rfl) rfl ?_
      refine fv_aload_n (ft_d o_Cv_sweep 83 rfl) rfl rfl ?_
      obtain ⟨R5, c6, w⟩ := w
      refine fv_callv (st := []) rfl rfl (ft_mm (pre := [.inr (.inr r1), .inr (.inl 4294967296), .inr (.inr r0)]) rfl) (ft_rnV (K' := k_Cv_leaveUpTo) (As := [.inr (.inl 4294967296), .inr (.inr r1)]) (ft_d o_Cv_sweep 84 rfl) ml_Cv_57 li_Cv_leaveUpTo.1 li_Cv_leaveUpTo.2 lw_Cv_leaveUpTo ⟨rfl, rfl, Nat.le_of_ble_eq_true rfl, Nat.le_of_ble_eq_true rfl⟩ hr0 rfl rfl rfl rfl (Nat.le_of_ble_eq_true rfl) c6) (fun h3 hw => ?_)
      have w := w h3 hw
      refine fv_aload_n (ft_d o_Cv_sweep 85 rfl) rfl rfl ?_
      refine fv_ldc2 (v := 4294967296) (z := 4294967296) (ft_d o_Cv_sweep 86 rfl) rfl (ft_gt 664 (by decide +kernel) rfl) rfl ?_
      refine fv_aload_n (ft_d o_Cv_sweep 87 rfl) rfl rfl ?_
      obtain ⟨R7, c8, w⟩ := w
      refine fv_callv (st := []) rfl rfl (ft_mm (pre := [.inr (.inr r1), .inr (.inl 4294967296), .inr (.inr r0)]) rfl) (ft_rnV (K' := k_Cv_walkTo) (As := [.inr (.inl 4294967296), .inr (.inr r1)]) (ft_d o_Cv_sweep 88 rfl) ml_Cv_61 li_Cv_walkTo.1 li_Cv_walkTo.2 lw_Cv_walkTo ⟨rfl, rfl, Nat.le_of_ble_eq_true rfl, Nat.le_of_ble_eq_true rfl⟩ hr0 rfl rfl rfl rfl (Nat.le_of_ble_eq_true rfl) c8) (fun h4 hw => ?_)
      have w := w h4 hw
      exact fv_return (ft_d o_Cv_sweep 89 rfl) rfl w
    · have w := w.2 c
      refine fv_aload_n (ft_d o_Cv_sweep 23 rfl) rfl rfl ?_
      refine fv_getR (b := r1 + 1) (ft_d o_Cv_sweep 24 rfl) rfl fl_Cv_50 hr1 rfl (lyc_4_0 hr1) ?_
      refine fv_iload_n (ft_d o_Cv_sweep 25 rfl) rfl rfl ?_
      refine fv_lald (ft_d o_Cv_sweep 26 rfl) rfl (shc_4_0 hr1) w.1 ?_
      have w := w.2
      refine fv_calllf (st := []) (z := (h (r1 + 1) x2.toNat) / 64) rfl rfl (ft_mm (pre := [.inr (.inl (h (r1 + 1) x2.toNat))]) rfl) (ft_rnSN (K' := k_FT_startOf) (As := [.inr (.inl (h (r1 + 1) x2.toNat))]) (host := "ForwardingTable") (ft_d o_Cv_sweep 27 rfl) (by decide) lz_FT_startOf lw_FT_startOf ⟨rfl, rfl, Nat.le_of_ble_eq_true rfl, Nat.le_of_ble_eq_true rfl⟩ rfl rfl (Nat.le_of_ble_eq_true rfl) (c_FT_startOf w.1)) ?_
      have w := w.2
      generalize en11 : (h (r1 + 1) x2.toNat) / 64 = n11
      have w := w n11 en11.symm
      refine fv_lstore_n (L' := [some (.inr (.inr r0)), some (.inr (.inr r1)), some (.inl x2), some (.inr (.inl n11)), none]) (ft_d o_Cv_sweep 28 rfl) rfl (Nat.le_of_ble_eq_true rfl) rfl ?_
      refine fv_aload_n (ft_d o_Cv_sweep 29 rfl) rfl rfl ?_
      refine fv_lload_n (ft_d o_Cv_sweep 30 rfl) rfl rfl ?_
      refine fv_aload_n (ft_d o_Cv_sweep 31 rfl) rfl rfl ?_
      obtain ⟨R12, c13, w⟩ := w
      refine fv_callv (st := []) rfl rfl (ft_mm (pre := [.inr (.inr r1), .inr (.inl n11), .inr (.inr r0)]) rfl) (ft_rnV (K' := k_Cv_leaveUpTo) (As := [.inr (.inl n11), .inr (.inr r1)]) (ft_d o_Cv_sweep 32 rfl) ml_Cv_57 li_Cv_leaveUpTo.1 li_Cv_leaveUpTo.2 lw_Cv_leaveUpTo ⟨rfl, rfl, Nat.le_of_ble_eq_true rfl, Nat.le_of_ble_eq_true rfl⟩ hr0 rfl rfl rfl rfl (Nat.le_of_ble_eq_true rfl) c13) (fun h5 hw => ?_)
      have w := w h5 hw
      refine fv_aload_n (ft_d o_Cv_sweep 33 rfl) rfl rfl ?_
      refine fv_lload_n (ft_d o_Cv_sweep 34 rfl) rfl rfl ?_
      refine fv_aload_n (ft_d o_Cv_sweep 35 rfl) rfl rfl ?_
      obtain ⟨R14, c15, w⟩ := w
      refine fv_callv (st := []) rfl rfl (ft_mm (pre := [.inr (.inr r1), .inr (.inl n11), .inr (.inr r0)]) rfl) (ft_rnV (K' := k_Cv_walkTo) (As := [.inr (.inl n11), .inr (.inr r1)]) (ft_d o_Cv_sweep 36 rfl) ml_Cv_61 li_Cv_walkTo.1 li_Cv_walkTo.2 lw_Cv_walkTo ⟨rfl, rfl, Nat.le_of_ble_eq_true rfl, Nat.le_of_ble_eq_true rfl⟩ hr0 rfl rfl rfl rfl (Nat.le_of_ble_eq_true rfl) c15) (fun h6 hw => ?_)
      have w := w h6 hw
      refine fv_aload_n (ft_d o_Cv_sweep 37 rfl) rfl rfl ?_
      refine fv_getR (b := r0 + 2) (ft_d o_Cv_sweep 38 rfl) rfl fl_Cv_15 hr0 rfl (lyc_2_0 hr0) ?_
      refine fv_iload_n (ft_d o_Cv_sweep 39 rfl) rfl rfl ?_
      refine fv_aload_n (ft_d o_Cv_sweep 40 rfl) rfl rfl ?_
      refine fv_callif (st := [.inl x2, .inr (.inr (r0 + 2))]) (z := (if 0 < h6 r0 8 then h6 (r0 + 1) (h6 r0 8 - 1).toNat else (-1))) (Or.inl rfl) rfl (ft_mm (pre := [.inr (.inr r0)]) rfl) (ft_rnV (K' := k_Cv_innermost) (As := []) (ft_d o_Cv_sweep 41 rfl) ml_Cv_64 li_Cv_innermost.1 li_Cv_innermost.2 lw_Cv_innermost ⟨rfl, rfl, Nat.le_of_ble_eq_true rfl, Nat.le_of_ble_eq_true rfl⟩ hr0 rfl rfl rfl rfl (Nat.le_of_ble_eq_true rfl) (c_Cv_innermost hr0 w.1)) ?_
      have w := w.2
      refine fv_iast (ft_d o_Cv_sweep 42 rfl) rfl (shc_2_0 hr0) w.1 ?_
      have w := w.2
      generalize eh7 : ft_hs h6 (r0 + 2) x2.toNat ((if 0 < h6 r0 8 then h6 (r0 + 1) (h6 r0 8 - 1).toNat else (-1))) = h7
      have w := w h7 eh7.symm
      refine fv_aload_n (ft_d o_Cv_sweep 43 rfl) rfl rfl ?_
      refine fv_getR (b := r0 + 3) (ft_d o_Cv_sweep 44 rfl) rfl fl_Cv_18 hr0 rfl (lyc_2_1 hr0) ?_
      refine fv_iload_n (ft_d o_Cv_sweep 45 rfl) rfl rfl ?_
      refine fv_aload_n (ft_d o_Cv_sweep 46 rfl) rfl rfl ?_
      refine fv_getI (ft_d o_Cv_sweep 47 rfl) rfl fl_Cv_38 hr0 rfl ?_
      refine fv_iast (ft_d o_Cv_sweep 48 rfl) rfl (shc_2_1 hr0) w.1 ?_
      have w := w.2
      generalize eh8 : ft_hs h7 (r0 + 3) x2.toNat (h7 r0 8) = h8
      have w := w h8 eh8.symm
      refine fv_aload_n (ft_d o_Cv_sweep 49 rfl) rfl rfl ?_
      refine fv_getR (b := r0 + 4) (ft_d o_Cv_sweep 50 rfl) rfl fl_Cv_21 hr0 rfl (lyc_2_2 hr0) ?_
      refine fv_iload_n (ft_d o_Cv_sweep 51 rfl) rfl rfl ?_
      refine fv_lconst (z := 0) (ft_d o_Cv_sweep 52 rfl) rfl rfl ?_
      refine fv_last (ft_d o_Cv_sweep 53 rfl) rfl (shc_2_2 hr0) w.1 ?_
      have w := w.2
      generalize eh9 : ft_hs h8 (r0 + 4) x2.toNat 0 = h9
      have w := w h9 eh9.symm
      refine fv_aload_n (ft_d o_Cv_sweep 54 rfl) rfl rfl ?_
      refine fv_getI (ft_d o_Cv_sweep 55 rfl) rfl fl_Cv_38 hr0 rfl ?_
      refine fv_aload_n (ft_d o_Cv_sweep 56 rfl) rfl rfl ?_
      refine fv_getR (b := r0 + 1) (ft_d o_Cv_sweep 57 rfl) rfl fl_Cv_9 hr0 rfl (lyc_2_7 hr0) ?_
      refine fv_alen (z := 33) (ft_d o_Cv_sweep 58 rfl) rfl (shc_2_7 hr0) (by decide) rfl (by decide) ?_
      refine fv_icmp_ge (tgt := 120) (ft_d o_Cv_sweep 59 rfl) rfl rfl (fun c => ?_) (fun c => ?_)
      · have w := w.1 c
        refine fv_aload_n (ft_d o_Cv_sweep 72 rfl) rfl rfl ?_
        refine fv_aload_n (ft_d o_Cv_sweep 73 rfl) rfl rfl ?_
        refine fv_getI (ft_d o_Cv_sweep 74 rfl) rfl fl_Cv_35 hr0 rfl ?_
        refine fv_aload_n (ft_d o_Cv_sweep 75 rfl) rfl rfl ?_
        refine fv_getI (ft_d o_Cv_sweep 76 rfl) rfl fl_Cv_38 hr0 rfl ?_
        refine fv_max (ft_d o_Cv_sweep 77 rfl) rfl ml_Cv_68 (Nat.le_of_ble_eq_true rfl) (Nat.le_of_ble_eq_true rfl) (Nat.le_of_ble_eq_true rfl) ?_
        refine fv_putI (ft_d o_Cv_sweep 78 rfl) rfl fl_Cv_35 rfl rfl hr0 rfl ?_
        generalize eh10 : ft_hs h9 r0 6 (max (h9 r0 6) (h9 r0 8)) = h10
        have w := w h10 eh10.symm
        refine fv_iinc (L' := [some (.inr (.inr r0)), some (.inr (.inr r1)), some (.inl (ft_add x2 1)), some (.inr (.inl n11)), none]) (ft_d o_Cv_sweep 79 rfl) rfl rfl (Nat.le_of_ble_eq_true rfl) rfl ?_
        refine fv_goto (pc' := 22) (ft_d o_Cv_sweep 80 rfl) rfl ?_
        refine fv_mask (M := [true, true, true, false, false]) rfl ?_
        exact w
      · have w := w.2 c
        refine fv_aload_n (ft_d o_Cv_sweep 60 rfl) rfl rfl ?_
        refine fv_getR (b := r0 + 1) (ft_d o_Cv_sweep 61 rfl) rfl fl_Cv_9 hr0 rfl (lyc_2_7 hr0) ?_
        refine fv_aload_n (ft_d o_Cv_sweep 62 rfl) rfl rfl ?_
        refine fv_getI (ft_d o_Cv_sweep 63 rfl) rfl fl_Cv_38 hr0 rfl ?_
        refine fv_iload_n (ft_d o_Cv_sweep 64 rfl) rfl rfl ?_
        refine fv_iast (ft_d o_Cv_sweep 65 rfl) rfl (shc_2_7 hr0) w.1 ?_
        have w := w.2
        generalize eh11 : ft_hs h9 (r0 + 1) (h9 r0 8).toNat x2 = h11
        have w := w h11 eh11.symm
        refine fv_aload_n (ft_d o_Cv_sweep 66 rfl) rfl rfl ?_
        refine fv_dup (ft_d o_Cv_sweep 67 rfl) rfl rfl ?_
        refine fv_getI (ft_d o_Cv_sweep 68 rfl) rfl fl_Cv_38 hr0 rfl ?_
        refine fv_iconst (ft_d o_Cv_sweep 69 rfl) rfl rfl ?_
        refine fv_iadd (ft_d o_Cv_sweep 70 rfl) rfl ?_
        refine fv_putI (ft_d o_Cv_sweep 71 rfl) rfl fl_Cv_38 rfl rfl hr0 rfl ?_
        generalize eh12 : ft_hs h11 r0 8 (ft_add (h11 r0 8) 1) = h12
        have w := w h12 eh12.symm
        refine fv_aload_n (ft_d o_Cv_sweep 72 rfl) rfl rfl ?_
        refine fv_aload_n (ft_d o_Cv_sweep 73 rfl) rfl rfl ?_
        refine fv_getI (ft_d o_Cv_sweep 74 rfl) rfl fl_Cv_35 hr0 rfl ?_
        refine fv_aload_n (ft_d o_Cv_sweep 75 rfl) rfl rfl ?_
        refine fv_getI (ft_d o_Cv_sweep 76 rfl) rfl fl_Cv_38 hr0 rfl ?_
        refine fv_max (ft_d o_Cv_sweep 77 rfl) rfl ml_Cv_68 (Nat.le_of_ble_eq_true rfl) (Nat.le_of_ble_eq_true rfl) (Nat.le_of_ble_eq_true rfl) ?_
        refine fv_putI (ft_d o_Cv_sweep 78 rfl) rfl fl_Cv_35 rfl rfl hr0 rfl ?_
        generalize eh13 : ft_hs h12 r0 6 (max (h12 r0 6) (h12 r0 8)) = h13
        have w := w h13 eh13.symm
        refine fv_iinc (L' := [some (.inr (.inr r0)), some (.inr (.inr r1)), some (.inl (ft_add x2 1)), some (.inr (.inl n11)), none]) (ft_d o_Cv_sweep 79 rfl) rfl rfl (Nat.le_of_ble_eq_true rfl) rfl ?_
        refine fv_goto (pc' := 22) (ft_d o_Cv_sweep 80 rfl) rfl ?_
        refine fv_mask (M := [true, true, true, false, false]) rfl ?_
        exact w
set_option maxRecDepth 20000 in
theorem b_Cv_leaveUpTo_0 {r0 : Nat} {x1 : Int} {r3 : Nat} {h : ftH} {R : Option ftV → ftH → Prop} (hr0 : ft_sh r0 = some (.inl 2)) (hr3 : ft_sh r3 = some (.inl 4))
    (w : ((h r0 8 ≤ 0 → R none h) ∧ (¬ (h r0 8 ≤ 0) → ((0 ≤ ft_sub (h r0 8) 1 ∧ ft_sub (h r0 8) 1 < 33) ∧ ((0 ≤ h (r0 + 1) (ft_sub (h r0 8) 1).toNat ∧ h (r0 + 1) (ft_sub (h r0 8) 1).toNat < (ft_ln (r3 + 1))) ∧ (((0 ≤ (h (r3 + 1) (h (r0 + 1) (ft_sub (h r0 8) 1).toNat).toNat) ∧ (h (r3 + 1) (h (r0 + 1) (ft_sub (h r0 8) 1).toNat).toNat) < 274877906944) ∧ (h (r3 + 1) (h (r0 + 1) (ft_sub (h r0 8) 1).toNat).toNat) % 64 ≤ 32) ∧ ((x1 < (h (r3 + 1) (h (r0 + 1) (ft_sub (h r0 8) 1).toNat).toNat) / 64 + pSz ((h (r3 + 1) (h (r0 + 1) (ft_sub (h r0 8) 1).toNat).toNat) % 64) → R none h) ∧ (¬ (x1 < (h (r3 + 1) (h (r0 + 1) (ft_sub (h r0 8) 1).toNat).toNat) / 64 + pSz ((h (r3 + 1) (h (r0 + 1) (ft_sub (h r0 8) 1).toNat).toNat) % 64)) → ((0 ≤ ft_sub (h r0 8) 1 ∧ ft_sub (h r0 8) 1 < 33) ∧ ((0 ≤ h (r0 + 1) (ft_sub (h r0 8) 1).toNat ∧ h (r0 + 1) (ft_sub (h r0 8) 1).toNat < (ft_ln (r3 + 1))) ∧ (((0 ≤ (h (r3 + 1) (h (r0 + 1) (ft_sub (h r0 8) 1).toNat).toNat) ∧ (h (r3 + 1) (h (r0 + 1) (ft_sub (h r0 8) 1).toNat).toNat) < 274877906944) ∧ (h (r3 + 1) (h (r0 + 1) (ft_sub (h r0 8) 1).toNat).toNat) % 64 ≤ 32) ∧ (∃ R5 : Option ftV → ftH → Prop, ft_C k_Cv_walkTo [.inr (.inr r0), .inr (.inl ((h (r3 + 1) (h (r0 + 1) (ft_sub (h r0 8) 1).toNat).toNat) / 64 + pSz ((h (r3 + 1) (h (r0 + 1) (ft_sub (h r0 8) 1).toNat).toNat) % 64))), .inr (.inr r3)] h R5 ∧ ∀ h1 : ftH, R5 none h1 → (∀ h2 : ftH, h2 = ft_hs h1 r0 8 (ft_sub (h1 r0 8) 1) → ft_V k_Cv_leaveUpTo 0 [some (.inr (.inr r0)), some (.inr (.inl x1)), none, some (.inr (.inr r3))] [] h2 R))))))))))))) : ft_V k_Cv_leaveUpTo 0 [some (.inr (.inr r0)), some (.inr (.inl x1)), none, some (.inr (.inr r3))] [] h R := by
  refine fv_aload_n (ft_d o_Cv_leaveUpTo 0 rfl) rfl rfl ?_
  refine fv_getI (ft_d o_Cv_leaveUpTo 1 rfl) rfl fl_Cv_38 hr0 rfl ?_
  refine fv_if_le (tgt := 68) (ft_d o_Cv_leaveUpTo 2 rfl) rfl rfl (fun c => ?_) (fun c => ?_)
  · have w := w.1 c
    exact fv_return (ft_d o_Cv_leaveUpTo 38 rfl) rfl w
  · have w := w.2 c
    refine fv_aload_n (ft_d o_Cv_leaveUpTo 3 rfl) rfl rfl ?_
    refine fv_getR (b := r3 + 1) (ft_d o_Cv_leaveUpTo 4 rfl) rfl fl_Cv_50 hr3 rfl (lyc_4_0 hr3) ?_
    refine fv_aload_n (ft_d o_Cv_leaveUpTo 5 rfl) rfl rfl ?_
    refine fv_getR (b := r0 + 1) (ft_d o_Cv_leaveUpTo 6 rfl) rfl fl_Cv_9 hr0 rfl (lyc_2_7 hr0) ?_
    refine fv_aload_n (ft_d o_Cv_leaveUpTo 7 rfl) rfl rfl ?_
    refine fv_getI (ft_d o_Cv_leaveUpTo 8 rfl) rfl fl_Cv_38 hr0 rfl ?_
    refine fv_iconst (ft_d o_Cv_leaveUpTo 9 rfl) rfl rfl ?_
    refine fv_isub (ft_d o_Cv_leaveUpTo 10 rfl) rfl ?_
    refine fv_iald (ft_d o_Cv_leaveUpTo 11 rfl) rfl (shc_2_7 hr0) w.1 ?_
    have w := w.2
    refine fv_lald (ft_d o_Cv_leaveUpTo 12 rfl) rfl (shc_4_0 hr3) w.1 ?_
    have w := w.2
    refine fv_calllf (st := []) (z := (h (r3 + 1) (h (r0 + 1) (ft_sub (h r0 8) 1).toNat).toNat) / 64 + pSz ((h (r3 + 1) (h (r0 + 1) (ft_sub (h r0 8) 1).toNat).toNat) % 64)) rfl rfl (ft_mm (pre := [.inr (.inl (h (r3 + 1) (h (r0 + 1) (ft_sub (h r0 8) 1).toNat).toNat))]) rfl) (ft_rnSN (K' := k_FT_endOf) (As := [.inr (.inl (h (r3 + 1) (h (r0 + 1) (ft_sub (h r0 8) 1).toNat).toNat))]) (host := "ForwardingTable") (ft_d o_Cv_leaveUpTo 13 rfl) (by decide) lz_FT_endOf lw_FT_endOf ⟨rfl, rfl, Nat.le_of_ble_eq_true rfl, Nat.le_of_ble_eq_true rfl⟩ rfl rfl (Nat.le_of_ble_eq_true rfl) (c_FT_endOf w.1)) ?_
    have w := w.2
    refine fv_lload_n (ft_d o_Cv_leaveUpTo 14 rfl) rfl rfl ?_
    refine fv_lcmp_gt (tgt := 68) (ft_d o_Cv_leaveUpTo 15 rfl) (ft_d o_Cv_leaveUpTo 16 rfl) rfl rfl (fun c => ?_) (fun c => ?_)
    · have w := w.1 c
      exact fv_return (ft_d o_Cv_leaveUpTo 38 rfl) rfl w
    · have w := w.2 c
      refine fv_aload_n (ft_d o_Cv_leaveUpTo 17 rfl) rfl rfl ?_
      refine fv_aload_n (ft_d o_Cv_leaveUpTo 18 rfl) rfl rfl ?_
      refine fv_getR (b := r3 + 1) (ft_d o_Cv_leaveUpTo 19 rfl) rfl fl_Cv_50 hr3 rfl (lyc_4_0 hr3) ?_
      refine fv_aload_n (ft_d o_Cv_leaveUpTo 20 rfl) rfl rfl ?_
      refine fv_getR (b := r0 + 1) (ft_d o_Cv_leaveUpTo 21 rfl) rfl fl_Cv_9 hr0 rfl (lyc_2_7 hr0) ?_
      refine fv_aload_n (ft_d o_Cv_leaveUpTo 22 rfl) rfl rfl ?_
      refine fv_getI (ft_d o_Cv_leaveUpTo 23 rfl) rfl fl_Cv_38 hr0 rfl ?_
      refine fv_iconst (ft_d o_Cv_leaveUpTo 24 rfl) rfl rfl ?_
      refine fv_isub (ft_d o_Cv_leaveUpTo 25 rfl) rfl ?_
      refine fv_iald (ft_d o_Cv_leaveUpTo 26 rfl) rfl (shc_2_7 hr0) w.1 ?_
      have w := w.2
      refine fv_lald (ft_d o_Cv_leaveUpTo 27 rfl) rfl (shc_4_0 hr3) w.1 ?_
      have w := w.2
      refine fv_calllf (st := [.inr (.inr r0)]) (z := (h (r3 + 1) (h (r0 + 1) (ft_sub (h r0 8) 1).toNat).toNat) / 64 + pSz ((h (r3 + 1) (h (r0 + 1) (ft_sub (h r0 8) 1).toNat).toNat) % 64)) rfl rfl (ft_mm (pre := [.inr (.inl (h (r3 + 1) (h (r0 + 1) (ft_sub (h r0 8) 1).toNat).toNat))]) rfl) (ft_rnSN (K' := k_FT_endOf) (As := [.inr (.inl (h (r3 + 1) (h (r0 + 1) (ft_sub (h r0 8) 1).toNat).toNat))]) (host := "ForwardingTable") (ft_d o_Cv_leaveUpTo 28 rfl) (by decide) lz_FT_endOf lw_FT_endOf ⟨rfl, rfl, Nat.le_of_ble_eq_true rfl, Nat.le_of_ble_eq_true rfl⟩ rfl rfl (Nat.le_of_ble_eq_true rfl) (c_FT_endOf w.1)) ?_
      have w := w.2
      refine fv_aload_n (ft_d o_Cv_leaveUpTo 29 rfl) rfl rfl ?_
      obtain ⟨R5, c6, w⟩ := w
      refine fv_callv (st := []) rfl rfl (ft_mm (pre := [.inr (.inr r3), .inr (.inl ((h (r3 + 1) (h (r0 + 1) (ft_sub (h r0 8) 1).toNat).toNat) / 64 + pSz ((h (r3 + 1) (h (r0 + 1) (ft_sub (h r0 8) 1).toNat).toNat) % 64))), .inr (.inr r0)]) rfl) (ft_rnV (K' := k_Cv_walkTo) (As := [.inr (.inl ((h (r3 + 1) (h (r0 + 1) (ft_sub (h r0 8) 1).toNat).toNat) / 64 + pSz ((h (r3 + 1) (h (r0 + 1) (ft_sub (h r0 8) 1).toNat).toNat) % 64))), .inr (.inr r3)]) (ft_d o_Cv_leaveUpTo 30 rfl) ml_Cv_61 li_Cv_walkTo.1 li_Cv_walkTo.2 lw_Cv_walkTo ⟨rfl, rfl, Nat.le_of_ble_eq_true rfl, Nat.le_of_ble_eq_true rfl⟩ hr0 rfl rfl rfl rfl (Nat.le_of_ble_eq_true rfl) c6) (fun h1 hw => ?_)
      have w := w h1 hw
      refine fv_aload_n (ft_d o_Cv_leaveUpTo 31 rfl) rfl rfl ?_
      refine fv_dup (ft_d o_Cv_leaveUpTo 32 rfl) rfl rfl ?_
      refine fv_getI (ft_d o_Cv_leaveUpTo 33 rfl) rfl fl_Cv_38 hr0 rfl ?_
      refine fv_iconst (ft_d o_Cv_leaveUpTo 34 rfl) rfl rfl ?_
      refine fv_isub (ft_d o_Cv_leaveUpTo 35 rfl) rfl ?_
      refine fv_putI (ft_d o_Cv_leaveUpTo 36 rfl) rfl fl_Cv_38 rfl rfl hr0 rfl ?_
      generalize eh2 : ft_hs h1 r0 8 (ft_sub (h1 r0 8) 1) = h2
      have w := w h2 eh2.symm
      refine fv_goto (pc' := 0) (ft_d o_Cv_leaveUpTo 37 rfl) rfl ?_
      exact w
set_option maxRecDepth 20000 in
theorem b_Cv_walkTo_0 {r0 : Nat} {x1 : Int} {r3 : Nat} {h : ftH} {R : Option ftV → ftH → Prop} (hr0 : ft_sh r0 = some (.inl 2)) (hr3 : ft_sh r3 = some (.inl 4))
    (w : ((h r0 9 < x1 → ((h r0 8 ≤ 33) ∧ (∀ n3 : Int, n3 = (if 0 < h r0 8 then h (r0 + 1) (h r0 8 - 1).toNat else (-1)) → ((n3 < 0 → ft_V k_Cv_walkTo 49 [some (.inr (.inr r0)), some (.inr (.inl x1)), none, none, none, some (.inl 0), none] [] h R) ∧ (¬ (n3 < 0) → ((0 ≤ n3 ∧ n3 < (ft_ln (r3 + 2))) ∧ (∀ n4 : Int, n4 = h (r3 + 2) n3.toNat → ((0 ≤ n3 ∧ n3 < (ft_ln (r0 + 4))) ∧ ((0 ≤ n3 ∧ n3 < (ft_ln (r0 + 4))) ∧ (∀ h1 : ftH, h1 = ft_hs h (r0 + 4) n3.toNat (ft_addL (h (r0 + 4) n3.toNat) (ft_subL x1 (h r0 9))) → ft_V k_Cv_walkTo 49 [some (.inr (.inr r0)), some (.inr (.inl x1)), none, none, none, some (.inl n4), none] [] h1 R)))))))))) ∧ (¬ (h r0 9 < x1) → R none h))) : ft_V k_Cv_walkTo 0 [some (.inr (.inr r0)), some (.inr (.inl x1)), none, some (.inr (.inr r3)), none, none, none] [] h R := by
  refine fv_lload_n (ft_d o_Cv_walkTo 0 rfl) rfl rfl ?_
  refine fv_aload_n (ft_d o_Cv_walkTo 1 rfl) rfl rfl ?_
  refine fv_getL (ft_d o_Cv_walkTo 2 rfl) rfl fl_Cv_41 hr0 rfl ?_
  refine fv_lcmp_gt (tgt := 10) (ft_d o_Cv_walkTo 3 rfl) (ft_d o_Cv_walkTo 4 rfl) rfl rfl (fun c => ?_) (fun c => ?_)
  · have w := w.1 c
    refine fv_aload_n (ft_d o_Cv_walkTo 6 rfl) rfl rfl ?_
    refine fv_callif (st := []) (z := (if 0 < h r0 8 then h (r0 + 1) (h r0 8 - 1).toNat else (-1))) (Or.inl rfl) rfl (ft_mm (pre := [.inr (.inr r0)]) rfl) (ft_rnV (K' := k_Cv_innermost) (As := []) (ft_d o_Cv_walkTo 7 rfl) ml_Cv_64 li_Cv_innermost.1 li_Cv_innermost.2 lw_Cv_innermost ⟨rfl, rfl, Nat.le_of_ble_eq_true rfl, Nat.le_of_ble_eq_true rfl⟩ hr0 rfl rfl rfl rfl (Nat.le_of_ble_eq_true rfl) (c_Cv_innermost hr0 w.1)) ?_
    have w := w.2
    generalize en3 : (if 0 < h r0 8 then h (r0 + 1) (h r0 8 - 1).toNat else (-1)) = n3
    have w := w n3 en3.symm
    refine fv_istore (L' := [some (.inr (.inr r0)), some (.inr (.inl x1)), none, some (.inr (.inr r3)), some (.inl n3), none, none]) (ft_d o_Cv_walkTo 8 rfl) rfl (Nat.le_of_ble_eq_true rfl) rfl ?_
    refine fv_iconst (ft_d o_Cv_walkTo 9 rfl) rfl rfl ?_
    refine fv_istore (L' := [some (.inr (.inr r0)), some (.inr (.inl x1)), none, some (.inr (.inr r3)), some (.inl n3), some (.inl 0), none]) (ft_d o_Cv_walkTo 10 rfl) rfl (Nat.le_of_ble_eq_true rfl) rfl ?_
    refine fv_iload (ft_d o_Cv_walkTo 11 rfl) rfl rfl ?_
    refine fv_if_lt (tgt := 49) (ft_d o_Cv_walkTo 12 rfl) rfl rfl (fun c => ?_) (fun c => ?_)
    · have w := w.1 c
      refine fv_mask (M := [true, true, false, false, false, true, false]) rfl ?_
      exact w
    · have w := w.2 c
      refine fv_aload_n (ft_d o_Cv_walkTo 13 rfl) rfl rfl ?_
      refine fv_getR (b := r3 + 2) (ft_d o_Cv_walkTo 14 rfl) rfl fl_Cv_79 hr3 rfl (lyc_4_1 hr3) ?_
      refine fv_iload (ft_d o_Cv_walkTo 15 rfl) rfl rfl ?_
      refine fv_iald (ft_d o_Cv_walkTo 16 rfl) rfl (shc_4_1 hr3) w.1 ?_
      have w := w.2
      generalize en4 : h (r3 + 2) n3.toNat = n4
      have w := w n4 en4.symm
      refine fv_istore (L' := [some (.inr (.inr r0)), some (.inr (.inl x1)), none, some (.inr (.inr r3)), some (.inl n3), some (.inl n4), none]) (ft_d o_Cv_walkTo 17 rfl) rfl (Nat.le_of_ble_eq_true rfl) rfl ?_
      refine fv_aload_n (ft_d o_Cv_walkTo 18 rfl) rfl rfl ?_
      refine fv_getR (b := r0 + 4) (ft_d o_Cv_walkTo 19 rfl) rfl fl_Cv_21 hr0 rfl (lyc_2_2 hr0) ?_
      refine fv_iload (ft_d o_Cv_walkTo 20 rfl) rfl rfl ?_
      refine fv_dup2 (ft_d o_Cv_walkTo 21 rfl) rfl rfl rfl ?_
      refine fv_lald (ft_d o_Cv_walkTo 22 rfl) rfl (shc_2_2 hr0) w.1 ?_
      have w := w.2
      refine fv_lload_n (ft_d o_Cv_walkTo 23 rfl) rfl rfl ?_
      refine fv_aload_n (ft_d o_Cv_walkTo 24 rfl) rfl rfl ?_
      refine fv_getL (ft_d o_Cv_walkTo 25 rfl) rfl fl_Cv_41 hr0 rfl ?_
      refine fv_lsub (ft_d o_Cv_walkTo 26 rfl) rfl ?_
      refine fv_ladd (ft_d o_Cv_walkTo 27 rfl) rfl ?_
      refine fv_last (ft_d o_Cv_walkTo 28 rfl) rfl (shc_2_2 hr0) w.1 ?_
      have w := w.2
      generalize eh1 : ft_hs h (r0 + 4) n3.toNat (ft_addL (h (r0 + 4) n3.toNat) (ft_subL x1 (h r0 9))) = h1
      have w := w h1 eh1.symm
      refine fv_mask (M := [true, true, false, false, false, true, false]) rfl ?_
      exact w
  · have w := w.2 c
    exact fv_return (ft_d o_Cv_walkTo 5 rfl) rfl w
set_option maxRecDepth 20000 in
theorem b_Cv_walkTo_49 {r0 : Nat} {x1 : Int} {x5 : Int} {h : ftH} {R : Option ftV → ftH → Prop} (hr0 : ft_sh r0 = some (.inl 2))
    (w : ((h r0 5 ≤ 0 → ft_V k_Cv_walkTo 76 [some (.inr (.inr r0)), some (.inr (.inl x1)), none, none, none, some (.inl x5), none] [] h R) ∧ (¬ (h r0 5 ≤ 0) → ((0 ≤ ft_sub (h r0 5) 1 ∧ ft_sub (h r0 5) 1 < (ft_ln (r0 + 6))) ∧ ((¬ (h (r0 + 6) (ft_sub (h r0 5) 1).toNat = x5) → ft_V k_Cv_walkTo 76 [some (.inr (.inr r0)), some (.inr (.inl x1)), none, none, none, some (.inl x5), none] [] h R) ∧ (h (r0 + 6) (ft_sub (h r0 5) 1).toNat = x5 → ft_V k_Cv_walkTo 77 [some (.inr (.inr r0)), some (.inr (.inl x1)), none, none, none, some (.inl x5), none] [.inl 1] h R)))))) : ft_V k_Cv_walkTo 49 [some (.inr (.inr r0)), some (.inr (.inl x1)), none, none, none, some (.inl x5), none] [] h R := by
  refine fv_aload_n (ft_d o_Cv_walkTo 29 rfl) rfl rfl ?_
  refine fv_getI (ft_d o_Cv_walkTo 30 rfl) rfl fl_Cv_31 hr0 rfl ?_
  refine fv_if_le (tgt := 76) (ft_d o_Cv_walkTo 31 rfl) rfl rfl (fun c => ?_) (fun c => ?_)
  · have w := w.1 c
    exact w
  · have w := w.2 c
    refine fv_aload_n (ft_d o_Cv_walkTo 32 rfl) rfl rfl ?_
    refine fv_getR (b := r0 + 6) (ft_d o_Cv_walkTo 33 rfl) rfl fl_Cv_28 hr0 rfl (lyc_2_4 hr0) ?_
    refine fv_aload_n (ft_d o_Cv_walkTo 34 rfl) rfl rfl ?_
    refine fv_getI (ft_d o_Cv_walkTo 35 rfl) rfl fl_Cv_31 hr0 rfl ?_
    refine fv_iconst (ft_d o_Cv_walkTo 36 rfl) rfl rfl ?_
    refine fv_isub (ft_d o_Cv_walkTo 37 rfl) rfl ?_
    refine fv_iald (ft_d o_Cv_walkTo 38 rfl) rfl (shc_2_4 hr0) w.1 ?_
    have w := w.2
    refine fv_iload (ft_d o_Cv_walkTo 39 rfl) rfl rfl ?_
    refine fv_icmp_ne (tgt := 76) (ft_d o_Cv_walkTo 40 rfl) rfl rfl (fun c => ?_) (fun c => ?_)
    · have w := w.1 c
      exact w
    · have w := w.2 c
      refine fv_iconst (ft_d o_Cv_walkTo 41 rfl) rfl rfl ?_
      refine fv_goto (pc' := 77) (ft_d o_Cv_walkTo 42 rfl) rfl ?_
      exact w
set_option maxRecDepth 20000 in
theorem b_Cv_walkTo_76 {r0 : Nat} {x1 : Int} {x5 : Int} {h : ftH} {R : Option ftV → ftH → Prop} (hr0 : ft_sh r0 = some (.inl 2))
    (w : ft_V k_Cv_walkTo 77 [some (.inr (.inr r0)), some (.inr (.inl x1)), none, none, none, some (.inl x5), none] [.inl 0] h R) : ft_V k_Cv_walkTo 76 [some (.inr (.inr r0)), some (.inr (.inl x1)), none, none, none, some (.inl x5), none] [] h R := by
  refine fv_iconst (ft_d o_Cv_walkTo 43 rfl) rfl rfl ?_
  exact w
set_option maxRecDepth 20000 in
theorem b_Cv_walkTo_77 {r0 : Nat} {x1 : Int} {x5 : Int} {y0 : Int} {h : ftH} {R : Option ftV → ftH → Prop} (hr0 : ft_sh r0 = some (.inl 2))
    (w : ((¬ (y0 = 0) → ft_V k_Cv_walkTo 130 [some (.inr (.inr r0)), some (.inr (.inl x1)), none, none, none, none, none] [] h R) ∧ (y0 = 0 → (((ft_ln (r0 + 5) : Int) ≤ h r0 5 → ft_V k_Cv_walkTo 130 [some (.inr (.inr r0)), some (.inr (.inl x1)), none, none, none, none, none] [] h R) ∧ (¬ ((ft_ln (r0 + 5) : Int) ≤ h r0 5) → ((0 ≤ h r0 5 ∧ h r0 5 < (ft_ln (r0 + 5))) ∧ (∀ h1 : ftH, h1 = ft_hs h (r0 + 5) (h r0 5).toNat (h r0 9) → ((0 ≤ h1 r0 5 ∧ h1 r0 5 < (ft_ln (r0 + 6))) ∧ (∀ h2 : ftH, h2 = ft_hs h1 (r0 + 6) (h1 r0 5).toNat x5 → (∀ h3 : ftH, h3 = ft_hs h2 r0 5 (ft_add (h2 r0 5) 1) → ft_V k_Cv_walkTo 130 [some (.inr (.inr r0)), some (.inr (.inl x1)), none, none, none, none, none] [] h3 R)))))))))) : ft_V k_Cv_walkTo 77 [some (.inr (.inr r0)), some (.inr (.inl x1)), none, none, none, some (.inl x5), none] [.inl y0] h R := by
  refine fv_istore (L' := [some (.inr (.inr r0)), some (.inr (.inl x1)), none, none, none, some (.inl x5), some (.inl y0)]) (ft_d o_Cv_walkTo 44 rfl) rfl (Nat.le_of_ble_eq_true rfl) rfl ?_
  refine fv_iload (ft_d o_Cv_walkTo 45 rfl) rfl rfl ?_
  refine fv_if_ne (tgt := 130) (ft_d o_Cv_walkTo 46 rfl) rfl rfl (fun c => ?_) (fun c => ?_)
  · have w := w.1 c
    refine fv_mask (M := [true, true, false, false, false, false, false]) rfl ?_
    exact w
  · have w := w.2 c
    refine fv_aload_n (ft_d o_Cv_walkTo 47 rfl) rfl rfl ?_
    refine fv_getI (ft_d o_Cv_walkTo 48 rfl) rfl fl_Cv_31 hr0 rfl ?_
    refine fv_aload_n (ft_d o_Cv_walkTo 49 rfl) rfl rfl ?_
    refine fv_getR (b := r0 + 5) (ft_d o_Cv_walkTo 50 rfl) rfl fl_Cv_25 hr0 rfl (lyc_2_3 hr0) ?_
    refine fv_alen (ft_d o_Cv_walkTo 51 rfl) rfl (shc_2_3 hr0) (by decide) rfl (ft_ln_lt _) ?_
    refine fv_icmp_ge (tgt := 130) (ft_d o_Cv_walkTo 52 rfl) rfl rfl (fun c => ?_) (fun c => ?_)
    · have w := w.1 c
      refine fv_mask (M := [true, true, false, false, false, false, false]) rfl ?_
      exact w
    · have w := w.2 c
      refine fv_aload_n (ft_d o_Cv_walkTo 53 rfl) rfl rfl ?_
      refine fv_getR (b := r0 + 5) (ft_d o_Cv_walkTo 54 rfl) rfl fl_Cv_25 hr0 rfl (lyc_2_3 hr0) ?_
      refine fv_aload_n (ft_d o_Cv_walkTo 55 rfl) rfl rfl ?_
      refine fv_getI (ft_d o_Cv_walkTo 56 rfl) rfl fl_Cv_31 hr0 rfl ?_
      refine fv_aload_n (ft_d o_Cv_walkTo 57 rfl) rfl rfl ?_
      refine fv_getL (ft_d o_Cv_walkTo 58 rfl) rfl fl_Cv_41 hr0 rfl ?_
      refine fv_last (ft_d o_Cv_walkTo 59 rfl) rfl (shc_2_3 hr0) w.1 ?_
      have w := w.2
      generalize eh1 : ft_hs h (r0 + 5) (h r0 5).toNat (h r0 9) = h1
      have w := w h1 eh1.symm
      refine fv_aload_n (ft_d o_Cv_walkTo 60 rfl) rfl rfl ?_
      refine fv_getR (b := r0 + 6) (ft_d o_Cv_walkTo 61 rfl) rfl fl_Cv_28 hr0 rfl (lyc_2_4 hr0) ?_
      refine fv_aload_n (ft_d o_Cv_walkTo 62 rfl) rfl rfl ?_
      refine fv_getI (ft_d o_Cv_walkTo 63 rfl) rfl fl_Cv_31 hr0 rfl ?_
      refine fv_iload (ft_d o_Cv_walkTo 64 rfl) rfl rfl ?_
      refine fv_iast (ft_d o_Cv_walkTo 65 rfl) rfl (shc_2_4 hr0) w.1 ?_
      have w := w.2
      generalize eh2 : ft_hs h1 (r0 + 6) (h1 r0 5).toNat x5 = h2
      have w := w h2 eh2.symm
      refine fv_aload_n (ft_d o_Cv_walkTo 66 rfl) rfl rfl ?_
      refine fv_dup (ft_d o_Cv_walkTo 67 rfl) rfl rfl ?_
      refine fv_getI (ft_d o_Cv_walkTo 68 rfl) rfl fl_Cv_31 hr0 rfl ?_
      refine fv_iconst (ft_d o_Cv_walkTo 69 rfl) rfl rfl ?_
      refine fv_iadd (ft_d o_Cv_walkTo 70 rfl) rfl ?_
      refine fv_putI (ft_d o_Cv_walkTo 71 rfl) rfl fl_Cv_31 rfl rfl hr0 rfl ?_
      generalize eh3 : ft_hs h2 r0 5 (ft_add (h2 r0 5) 1) = h3
      have w := w h3 eh3.symm
      refine fv_mask (M := [true, true, false, false, false, false, false]) rfl ?_
      exact w
set_option maxRecDepth 20000 in
theorem b_Cv_walkTo_130 {r0 : Nat} {x1 : Int} {h : ftH} {R : Option ftV → ftH → Prop} (hr0 : ft_sh r0 = some (.inl 2))
    (w : (∀ h1 : ftH, h1 = ft_hs h r0 9 x1 → R none h1)) : ft_V k_Cv_walkTo 130 [some (.inr (.inr r0)), some (.inr (.inl x1)), none, none, none, none, none] [] h R := by
  refine fv_aload_n (ft_d o_Cv_walkTo 72 rfl) rfl rfl ?_
  refine fv_lload_n (ft_d o_Cv_walkTo 73 rfl) rfl rfl ?_
  refine fv_putL (ft_d o_Cv_walkTo 74 rfl) rfl fl_Cv_41 rfl rfl hr0 rfl ?_
  generalize eh1 : ft_hs h r0 9 x1 = h1
  have w := w h1 eh1.symm
  exact fv_return (ft_d o_Cv_walkTo 75 rfl) rfl w
