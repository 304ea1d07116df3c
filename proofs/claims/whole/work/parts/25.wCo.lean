/-! printed by wip/whole/gen/gen10.py: what must hold at each cut point -/
set_option maxRecDepth 20000 in
theorem b_Co_compress_0 {r1 : Nat} {h : ftH} {R : Option ftV → ftH → Prop} (hr1 : ft_sh r1 = some (.inl 4))
    (w : (∀ h1 : ftH, h1 = ft_hs h 122 10 0 → (((0 ≤ (0 : Int) ∧ (0 : Int) < 4294967296) ∧ (0 ≤ (0 : Int) ∧ (0 : Int) ≤ 32)) ∧ (∃ R3 : Option ftV → ftH → Prop, ft_C k_Co_addNode [.inr (.inr 122), .inr (.inl (64 * (0 : Int) + (0 : Int))), .inl 0, .inl (h1 r1 2), .inl ((-1)), .inl 0] h1 R3 ∧ ∀ h2 : ftH, R3 none h2 → ft_V k_Co_compress 23 [some (.inr (.inr 122)), some (.inr (.inr r1)), some (.inl 0)] [] h2 R)))) : ft_V k_Co_compress 0 [some (.inr (.inr 122)), some (.inr (.inr r1)), none] [] h R := by
  refine fv_aload_n (ft_d o_Co_compress 0 rfl) rfl rfl ?_
  refine fv_iconst (ft_d o_Co_compress 1 rfl) rfl rfl ?_
  refine fv_putI (ft_d o_Co_compress 2 rfl) rfl fl_Co_44 rfl rfl sh_122 rfl ?_
  generalize eh1 : ft_hs h 122 10 0 = h1
  have w := w h1 eh1.symm
  refine fv_aload_n (ft_d o_Co_compress 3 rfl) rfl rfl ?_
  refine fv_lconst (z := 0) (ft_d o_Co_compress 4 rfl) rfl rfl ?_
  refine fv_iconst (ft_d o_Co_compress 5 rfl) rfl rfl ?_
  refine fv_calllf (st := [.inr (.inr 122)]) (z := 64 * (0 : Int) + (0 : Int)) rfl rfl (ft_mm (pre := [.inl 0, .inr (.inl 0)]) rfl) (ft_rnSN (K' := k_FT_keyOf) (As := [.inr (.inl 0), .inl 0]) (host := "ForwardingTable") (ft_d o_Co_compress 6 rfl) (by decide) lz_FT_keyOf lw_FT_keyOf ⟨rfl, rfl, Nat.le_of_ble_eq_true rfl, Nat.le_of_ble_eq_true rfl⟩ rfl rfl (Nat.le_of_ble_eq_true rfl) (c_FT_keyOf w.1)) ?_
  have w := w.2
  refine fv_iconst (ft_d o_Co_compress 7 rfl) rfl rfl ?_
  refine fv_aload_n (ft_d o_Co_compress 8 rfl) rfl rfl ?_
  refine fv_getI (ft_d o_Co_compress 9 rfl) rfl fl_Co_52 hr1 rfl ?_
  refine fv_iconst (ft_d o_Co_compress 10 rfl) rfl rfl ?_
  refine fv_iconst (ft_d o_Co_compress 11 rfl) rfl rfl ?_
  obtain ⟨R3, c4, w⟩ := w
  refine fv_callv (st := []) rfl rfl (ft_mm (pre := [.inl 0, .inl ((-1)), .inl (h1 r1 2), .inl 0, .inr (.inl (64 * (0 : Int) + (0 : Int))), .inr (.inr 122)]) rfl) (ft_rnV (K' := k_Co_addNode) (As := [.inr (.inl (64 * (0 : Int) + (0 : Int))), .inl 0, .inl (h1 r1 2), .inl ((-1)), .inl 0]) (ft_d o_Co_compress 12 rfl) ml_Co_57 li_Co_addNode.1 li_Co_addNode.2 lw_Co_addNode ⟨rfl, rfl, Nat.le_of_ble_eq_true rfl, Nat.le_of_ble_eq_true rfl⟩ sh_122 rfl rfl rfl rfl (Nat.le_of_ble_eq_true rfl) c4) (fun h2 hw => ?_)
  have w := w h2 hw
  refine fv_iconst (ft_d o_Co_compress 13 rfl) rfl rfl ?_
  refine fv_istore_n (L' := [some (.inr (.inr 122)), some (.inr (.inr r1)), some (.inl 0)]) (ft_d o_Co_compress 14 rfl) rfl (Nat.le_of_ble_eq_true rfl) rfl ?_
  exact w
set_option maxRecDepth 20000 in
theorem b_Co_compress_23 {r1 : Nat} {x2 : Int} {h : ftH} {R : Option ftV → ftH → Prop} (hr1 : ft_sh r1 = some (.inl 4))
    (w : ((h 122 10 ≤ x2 → (∃ R1 : Option ftV → ftH → Prop, ft_C k_Co_gatherSets [.inr (.inr 122)] h R1 ∧ ∀ h1 : ftH, R1 none h1 → (∃ R3 : Option ftV → ftH → Prop, ft_C k_Co_handDown [.inr (.inr 122)] h1 R3 ∧ ∀ (z5 : Int) (h2 : ftH), ft_in z5 → R3 (some (.inl z5)) h2 → R (some (.inl z5)) h2))) ∧ (¬ (h 122 10 ≤ x2) → ((360 ≤ x2 → (∃ R6 : Option ftV → ftH → Prop, ft_C k_Co_gatherSets [.inr (.inr 122)] h R6 ∧ ∀ h3 : ftH, R6 none h3 → (∃ R8 : Option ftV → ftH → Prop, ft_C k_Co_handDown [.inr (.inr 122)] h3 R8 ∧ ∀ (z10 : Int) (h4 : ftH), ft_in z10 → R8 (some (.inl z10)) h4 → R (some (.inl z10)) h4))) ∧ (¬ (360 ≤ x2) → (∃ R11 : Option ftV → ftH → Prop, ft_C k_Co_open [.inr (.inr 122), .inl x2, .inr (.inr r1)] h R11 ∧ ∀ h5 : ftH, R11 none h5 → ft_V k_Co_compress 23 [some (.inr (.inr 122)), some (.inr (.inr r1)), some (.inl (ft_add x2 1))] [] h5 R)))))) : ft_V k_Co_compress 23 [some (.inr (.inr 122)), some (.inr (.inr r1)), some (.inl x2)] [] h R := by
  refine fv_iload_n (ft_d o_Co_compress 15 rfl) rfl rfl ?_
  refine fv_aload_n (ft_d o_Co_compress 16 rfl) rfl rfl ?_
  refine fv_getI (ft_d o_Co_compress 17 rfl) rfl fl_Co_44 sh_122 rfl ?_
  refine fv_icmp_ge (tgt := 50) (ft_d o_Co_compress 18 rfl) rfl rfl (fun c => ?_) (fun c => ?_)
  · have w := w.1 c
    refine fv_aload_n (ft_d o_Co_compress 28 rfl) rfl rfl ?_
    obtain ⟨R1, c2, w⟩ := w
    refine fv_callv (st := []) rfl rfl (ft_mm (pre := [.inr (.inr 122)]) rfl) (ft_rnV (K' := k_Co_gatherSets) (As := []) (ft_d o_Co_compress 29 rfl) ml_Co_65 li_Co_gatherSets.1 li_Co_gatherSets.2 lw_Co_gatherSets ⟨rfl, rfl, Nat.le_of_ble_eq_true rfl, Nat.le_of_ble_eq_true rfl⟩ sh_122 rfl rfl rfl rfl (Nat.le_of_ble_eq_true rfl) c2) (fun h1 hw => ?_)
    have w := w h1 hw
    refine fv_aload_n (ft_d o_Co_compress 30 rfl) rfl rfl ?_
    obtain ⟨R3, c4, w⟩ := w
    refine fv_calli (st := []) (Or.inl rfl) rfl (ft_mm (pre := [.inr (.inr 122)]) rfl) (ft_rnV (K' := k_Co_handDown) (As := []) (ft_d o_Co_compress 31 rfl) ml_Co_68 li_Co_handDown.1 li_Co_handDown.2 lw_Co_handDown ⟨rfl, rfl, Nat.le_of_ble_eq_true rfl, Nat.le_of_ble_eq_true rfl⟩ sh_122 rfl rfl rfl rfl (Nat.le_of_ble_eq_true rfl) c4) (fun z5 h2 hz hw => ?_)
    have w := w z5 h2 hz hw
    exact fv_ireturn (ft_d o_Co_compress 32 rfl) rfl w
  · have w := w.2 c
    refine fv_iload_n (ft_d o_Co_compress 19 rfl) rfl rfl ?_
    refine fv_sipush (ft_d o_Co_compress 20 rfl) rfl rfl ?_
    refine fv_icmp_ge (tgt := 50) (ft_d o_Co_compress 21 rfl) rfl rfl (fun c => ?_) (fun c => ?_)
    · have w := w.1 c
      refine fv_aload_n (ft_d o_Co_compress 28 rfl) rfl rfl ?_
      obtain ⟨R6, c7, w⟩ := w
      refine fv_callv (st := []) rfl rfl (ft_mm (pre := [.inr (.inr 122)]) rfl) (ft_rnV (K' := k_Co_gatherSets) (As := []) (ft_d o_Co_compress 29 rfl) ml_Co_65 li_Co_gatherSets.1 li_Co_gatherSets.2 lw_Co_gatherSets ⟨rfl, rfl, Nat.le_of_ble_eq_true rfl, Nat.le_of_ble_eq_true rfl⟩ sh_122 rfl rfl rfl rfl (Nat.le_of_ble_eq_true rfl) c7) (fun h3 hw => ?_)
      have w := w h3 hw
      refine fv_aload_n (ft_d o_Co_compress 30 rfl) rfl rfl ?_
      obtain ⟨R8, c9, w⟩ := w
      refine fv_calli (st := []) (Or.inl rfl) rfl (ft_mm (pre := [.inr (.inr 122)]) rfl) (ft_rnV (K' := k_Co_handDown) (As := []) (ft_d o_Co_compress 31 rfl) ml_Co_68 li_Co_handDown.1 li_Co_handDown.2 lw_Co_handDown ⟨rfl, rfl, Nat.le_of_ble_eq_true rfl, Nat.le_of_ble_eq_true rfl⟩ sh_122 rfl rfl rfl rfl (Nat.le_of_ble_eq_true rfl) c9) (fun z10 h4 hz hw => ?_)
      have w := w z10 h4 hz hw
      exact fv_ireturn (ft_d o_Co_compress 32 rfl) rfl w
    · have w := w.2 c
      refine fv_aload_n (ft_d o_Co_compress 22 rfl) rfl rfl ?_
      refine fv_iload_n (ft_d o_Co_compress 23 rfl) rfl rfl ?_
      refine fv_aload_n (ft_d o_Co_compress 24 rfl) rfl rfl ?_
      obtain ⟨R11, c12, w⟩ := w
      refine fv_callv (st := []) rfl rfl (ft_mm (pre := [.inr (.inr r1), .inl x2, .inr (.inr 122)]) rfl) (ft_rnV (K' := k_Co_open) (As := [.inl x2, .inr (.inr r1)]) (ft_d o_Co_compress 25 rfl) ml_Co_61 li_Co_open.1 li_Co_open.2 lw_Co_open ⟨rfl, rfl, Nat.le_of_ble_eq_true rfl, Nat.le_of_ble_eq_true rfl⟩ sh_122 rfl rfl rfl rfl (Nat.le_of_ble_eq_true rfl) c12) (fun h5 hw => ?_)
      have w := w h5 hw
      refine fv_iinc (L' := [some (.inr (.inr 122)), some (.inr (.inr r1)), some (.inl (ft_add x2 1))]) (ft_d o_Co_compress 26 rfl) rfl rfl (Nat.le_of_ble_eq_true rfl) rfl ?_
      refine fv_goto (pc' := 23) (ft_d o_Co_compress 27 rfl) rfl ?_
      exact w
set_option maxRecDepth 20000 in
theorem b_Co_collect_0 {r1 : Nat} {h : ftH} {R : Option ftV → ftH → Prop} (hr1 : ft_sh r1 = some (.inl 4))
    (w : (∀ h1 : ftH, h1 = ft_hs h r1 2 0 → ft_V k_Co_collect 7 [some (.inr (.inr 122)), some (.inr (.inr r1)), some (.inl 0)] [] h1 R)) : ft_V k_Co_collect 0 [some (.inr (.inr 122)), some (.inr (.inr r1)), none] [] h R := by
  refine fv_aload_n (ft_d o_Co_collect 0 rfl) rfl rfl ?_
  refine fv_iconst (ft_d o_Co_collect 1 rfl) rfl rfl ?_
  refine fv_putI (ft_d o_Co_collect 2 rfl) rfl fl_Co_52 rfl rfl hr1 rfl ?_
  generalize eh1 : ft_hs h r1 2 0 = h1
  have w := w h1 eh1.symm
  refine fv_iconst (ft_d o_Co_collect 3 rfl) rfl rfl ?_
  refine fv_istore_n (L' := [some (.inr (.inr 122)), some (.inr (.inr r1)), some (.inl 0)]) (ft_d o_Co_collect 4 rfl) rfl (Nat.le_of_ble_eq_true rfl) rfl ?_
  exact w
set_option maxRecDepth 20000 in
theorem b_Co_collect_7 {r1 : Nat} {x2 : Int} {h : ftH} {R : Option ftV → ftH → Prop} (hr1 : ft_sh r1 = some (.inl 4))
    (w : ((h 122 10 ≤ x2 → R none h) ∧ (¬ (h 122 10 ≤ x2) → ((0 ≤ x2 ∧ x2 < 360) ∧ ((h 132 x2.toNat < 0 → ft_V k_Co_collect 7 [some (.inr (.inr 122)), some (.inr (.inr r1)), some (.inl (ft_add x2 1))] [] h R) ∧ (¬ (h 132 x2.toNat < 0) → ((0 ≤ x2 ∧ x2 < 360) ∧ ((0 ≤ x2 ∧ x2 < 360) ∧ (∃ R1 : Option ftV → ftH → Prop, ft_C k_PS_put [.inr (.inr r1), .inr (.inl (h 123 x2.toNat)), .inl (h 132 x2.toNat)] h R1 ∧ ∀ h1 : ftH, R1 none h1 → ft_V k_Co_collect 7 [some (.inr (.inr 122)), some (.inr (.inr r1)), some (.inl (ft_add x2 1))] [] h1 R))))))))) : ft_V k_Co_collect 7 [some (.inr (.inr 122)), some (.inr (.inr r1)), some (.inl x2)] [] h R := by
  refine fv_iload_n (ft_d o_Co_collect 5 rfl) rfl rfl ?_
  refine fv_aload_n (ft_d o_Co_collect 6 rfl) rfl rfl ?_
  refine fv_getI (ft_d o_Co_collect 7 rfl) rfl fl_Co_44 sh_122 rfl ?_
  refine fv_icmp_ge (tgt := 46) (ft_d o_Co_collect 8 rfl) rfl rfl (fun c => ?_) (fun c => ?_)
  · have w := w.1 c
    exact fv_return (ft_d o_Co_collect 26 rfl) rfl w
  · have w := w.2 c
    refine fv_aload_n (ft_d o_Co_collect 9 rfl) rfl rfl ?_
    refine fv_getR (b := 132) (ft_d o_Co_collect 10 rfl) rfl fl_Co_41 sh_122 rfl ly_122_9 ?_
    refine fv_iload_n (ft_d o_Co_collect 11 rfl) rfl rfl ?_
    refine fv_iald (ft_d o_Co_collect 12 rfl) rfl sh_132 w.1 ?_
    have w := w.2
    refine fv_if_lt (tgt := 40) (ft_d o_Co_collect 13 rfl) rfl rfl (fun c => ?_) (fun c => ?_)
    · have w := w.1 c
      refine fv_iinc (L' := [some (.inr (.inr 122)), some (.inr (.inr r1)), some (.inl (ft_add x2 1))]) (ft_d o_Co_collect 24 rfl) rfl rfl (Nat.le_of_ble_eq_true rfl) rfl ?_
      refine fv_goto (pc' := 7) (ft_d o_Co_collect 25 rfl) rfl ?_
      exact w
    · have w := w.2 c
      refine fv_aload_n (ft_d o_Co_collect 14 rfl) rfl rfl ?_
      refine fv_aload_n (ft_d o_Co_collect 15 rfl) rfl rfl ?_
      refine fv_getR (b := 123) (ft_d o_Co_collect 16 rfl) rfl fl_Co_11 sh_122 rfl ly_122_0 ?_
      refine fv_iload_n (ft_d o_Co_collect 17 rfl) rfl rfl ?_
      refine fv_lald (ft_d o_Co_collect 18 rfl) rfl sh_123 w.1 ?_
      have w := w.2
      refine fv_aload_n (ft_d o_Co_collect 19 rfl) rfl rfl ?_
      refine fv_getR (b := 132) (ft_d o_Co_collect 20 rfl) rfl fl_Co_41 sh_122 rfl ly_122_9 ?_
      refine fv_iload_n (ft_d o_Co_collect 21 rfl) rfl rfl ?_
      refine fv_iald (ft_d o_Co_collect 22 rfl) rfl sh_132 w.1 ?_
      have w := w.2
      obtain ⟨R1, c2, w⟩ := w
      refine fv_callv (st := []) rfl rfl (ft_mm (pre := [.inl (h 132 x2.toNat), .inr (.inl (h 123 x2.toNat)), .inr (.inr r1)]) rfl) (ft_rnV (K' := k_PS_put) (As := [.inr (.inl (h 123 x2.toNat)), .inl (h 132 x2.toNat)]) (ft_d o_Co_collect 23 rfl) ml_Co_72 li_PS_put.1 li_PS_put.2 lw_PS_put ⟨rfl, rfl, Nat.le_of_ble_eq_true rfl, Nat.le_of_ble_eq_true rfl⟩ hr1 rfl rfl rfl rfl (Nat.le_of_ble_eq_true rfl) c2) (fun h1 hw => ?_)
      have w := w h1 hw
      refine fv_iinc (L' := [some (.inr (.inr 122)), some (.inr (.inr r1)), some (.inl (ft_add x2 1))]) (ft_d o_Co_collect 24 rfl) rfl rfl (Nat.le_of_ble_eq_true rfl) rfl ?_
      refine fv_goto (pc' := 7) (ft_d o_Co_collect 25 rfl) rfl ?_
      exact w
set_option maxRecDepth 20000 in
theorem b_Co_addNode_0 {x1 : Int} {x3 : Int} {x4 : Int} {x5 : Int} {x6 : Int} {h : ftH} {R : Option ftV → ftH → Prop} 
    (w : ((h 122 10 < 360 → ((0 ≤ h 122 10 ∧ h 122 10 < 360) ∧ (∀ h1 : ftH, h1 = ft_hs h 123 (h 122 10).toNat x1 → ((0 ≤ h1 122 10 ∧ h1 122 10 < 360) ∧ (∀ h2 : ftH, h2 = ft_hs h1 124 (h1 122 10).toNat x3 → ((0 ≤ h2 122 10 ∧ h2 122 10 < 360) ∧ (∀ h3 : ftH, h3 = ft_hs h2 125 (h2 122 10).toNat x4 → ((0 ≤ h3 122 10 ∧ h3 122 10 < 360) ∧ (∀ h4 : ftH, h4 = ft_hs h3 126 (h3 122 10).toNat x5 → ((0 ≤ h4 122 10 ∧ h4 122 10 < 360) ∧ (∀ h5 : ftH, h5 = ft_hs h4 127 (h4 122 10).toNat x6 → ((0 ≤ h5 122 10 ∧ h5 122 10 < 360) ∧ (∀ h6 : ftH, h6 = ft_hs h5 128 (h5 122 10).toNat 0 → ((0 ≤ h6 122 10 ∧ h6 122 10 < 360) ∧ (∀ h7 : ftH, h7 = ft_hs h6 129 (h6 122 10).toNat 65535 → ((0 ≤ h7 122 10 ∧ h7 122 10 < 360) ∧ (∀ h8 : ftH, h8 = ft_hs h7 130 (h7 122 10).toNat 0 → (∀ h9 : ftH, h9 = ft_hs h8 122 10 (ft_add (h8 122 10) 1) → R none h9)))))))))))))))))) ∧ (¬ (h 122 10 < 360) → R none h))) : ft_V k_Co_addNode 0 [some (.inr (.inr 122)), some (.inr (.inl x1)), none, some (.inl x3), some (.inl x4), some (.inl x5), some (.inl x6)] [] h R := by
  refine fv_aload_n (ft_d o_Co_addNode 0 rfl) rfl rfl ?_
  refine fv_getI (ft_d o_Co_addNode 1 rfl) rfl fl_Co_44 sh_122 rfl ?_
  refine fv_sipush (ft_d o_Co_addNode 2 rfl) rfl rfl ?_
  refine fv_icmp_lt (tgt := 11) (ft_d o_Co_addNode 3 rfl) rfl rfl (fun c => ?_) (fun c => ?_)
  · have w := w.1 c
    refine fv_aload_n (ft_d o_Co_addNode 5 rfl) rfl rfl ?_
    refine fv_getR (b := 123) (ft_d o_Co_addNode 6 rfl) rfl fl_Co_11 sh_122 rfl ly_122_0 ?_
    refine fv_aload_n (ft_d o_Co_addNode 7 rfl) rfl rfl ?_
    refine fv_getI (ft_d o_Co_addNode 8 rfl) rfl fl_Co_44 sh_122 rfl ?_
    refine fv_lload_n (ft_d o_Co_addNode 9 rfl) rfl rfl ?_
    refine fv_last (ft_d o_Co_addNode 10 rfl) rfl sh_123 w.1 ?_
    have w := w.2
    generalize eh1 : ft_hs h 123 (h 122 10).toNat x1 = h1
    have w := w h1 eh1.symm
    refine fv_aload_n (ft_d o_Co_addNode 11 rfl) rfl rfl ?_
    refine fv_getR (b := 124) (ft_d o_Co_addNode 12 rfl) rfl fl_Co_15 sh_122 rfl ly_122_1 ?_
    refine fv_aload_n (ft_d o_Co_addNode 13 rfl) rfl rfl ?_
    refine fv_getI (ft_d o_Co_addNode 14 rfl) rfl fl_Co_44 sh_122 rfl ?_
    refine fv_iload_n (ft_d o_Co_addNode 15 rfl) rfl rfl ?_
    refine fv_iast (ft_d o_Co_addNode 16 rfl) rfl sh_124 w.1 ?_
    have w := w.2
    generalize eh2 : ft_hs h1 124 (h1 122 10).toNat x3 = h2
    have w := w h2 eh2.symm
    refine fv_aload_n (ft_d o_Co_addNode 17 rfl) rfl rfl ?_
    refine fv_getR (b := 125) (ft_d o_Co_addNode 18 rfl) rfl fl_Co_19 sh_122 rfl ly_122_2 ?_
    refine fv_aload_n (ft_d o_Co_addNode 19 rfl) rfl rfl ?_
    refine fv_getI (ft_d o_Co_addNode 20 rfl) rfl fl_Co_44 sh_122 rfl ?_
    refine fv_iload (ft_d o_Co_addNode 21 rfl) rfl rfl ?_
    refine fv_iast (ft_d o_Co_addNode 22 rfl) rfl sh_125 w.1 ?_
    have w := w.2
    generalize eh3 : ft_hs h2 125 (h2 122 10).toNat x4 = h3
    have w := w h3 eh3.symm
    refine fv_aload_n (ft_d o_Co_addNode 23 rfl) rfl rfl ?_
    refine fv_getR (b := 126) (ft_d o_Co_addNode 24 rfl) rfl fl_Co_22 sh_122 rfl ly_122_3 ?_
    refine fv_aload_n (ft_d o_Co_addNode 25 rfl) rfl rfl ?_
    refine fv_getI (ft_d o_Co_addNode 26 rfl) rfl fl_Co_44 sh_122 rfl ?_
    refine fv_iload (ft_d o_Co_addNode 27 rfl) rfl rfl ?_
    refine fv_iast (ft_d o_Co_addNode 28 rfl) rfl sh_126 w.1 ?_
    have w := w.2
    generalize eh4 : ft_hs h3 126 (h3 122 10).toNat x5 = h4
    have w := w h4 eh4.symm
    refine fv_aload_n (ft_d o_Co_addNode 29 rfl) rfl rfl ?_
    refine fv_getR (b := 127) (ft_d o_Co_addNode 30 rfl) rfl fl_Co_25 sh_122 rfl ly_122_4 ?_
    refine fv_aload_n (ft_d o_Co_addNode 31 rfl) rfl rfl ?_
    refine fv_getI (ft_d o_Co_addNode 32 rfl) rfl fl_Co_44 sh_122 rfl ?_
    refine fv_iload (ft_d o_Co_addNode 33 rfl) rfl rfl ?_
    refine fv_iast (ft_d o_Co_addNode 34 rfl) rfl sh_127 w.1 ?_
    have w := w.2
    generalize eh5 : ft_hs h4 127 (h4 122 10).toNat x6 = h5
    have w := w h5 eh5.symm
    refine fv_aload_n (ft_d o_Co_addNode 35 rfl) rfl rfl ?_
    refine fv_getR (b := 128) (ft_d o_Co_addNode 36 rfl) rfl fl_Co_28 sh_122 rfl ly_122_5 ?_
    refine fv_aload_n (ft_d o_Co_addNode 37 rfl) rfl rfl ?_
    refine fv_getI (ft_d o_Co_addNode 38 rfl) rfl fl_Co_44 sh_122 rfl ?_
    refine fv_iconst (ft_d o_Co_addNode 39 rfl) rfl rfl ?_
    refine fv_zast (ft_d o_Co_addNode 40 rfl) rfl sh_128 w.1 (Or.inl rfl) ?_
    have w := w.2
    generalize eh6 : ft_hs h5 128 (h5 122 10).toNat 0 = h6
    have w := w h6 eh6.symm
    refine fv_aload_n (ft_d o_Co_addNode 41 rfl) rfl rfl ?_
    refine fv_getR (b := 129) (ft_d o_Co_addNode 42 rfl) rfl fl_Co_32 sh_122 rfl ly_122_6 ?_
    refine fv_aload_n (ft_d o_Co_addNode 43 rfl) rfl rfl ?_
    refine fv_getI (ft_d o_Co_addNode 44 rfl) rfl fl_Co_44 sh_122 rfl ?_
    refine fv_ldc (v := 65535) (z := 65535) (ft_d o_Co_addNode 45 rfl) rfl (ft_gt 674 (by decide +kernel) rfl) rfl ?_
    refine fv_iast (ft_d o_Co_addNode 46 rfl) rfl sh_129 w.1 ?_
    have w := w.2
    generalize eh7 : ft_hs h6 129 (h6 122 10).toNat 65535 = h7
    have w := w h7 eh7.symm
    refine fv_aload_n (ft_d o_Co_addNode 47 rfl) rfl rfl ?_
    refine fv_getR (b := 130) (ft_d o_Co_addNode 48 rfl) rfl fl_Co_35 sh_122 rfl ly_122_7 ?_
    refine fv_aload_n (ft_d o_Co_addNode 49 rfl) rfl rfl ?_
    refine fv_getI (ft_d o_Co_addNode 50 rfl) rfl fl_Co_44 sh_122 rfl ?_
    refine fv_iconst (ft_d o_Co_addNode 51 rfl) rfl rfl ?_
    refine fv_iast (ft_d o_Co_addNode 52 rfl) rfl sh_130 w.1 ?_
    have w := w.2
    generalize eh8 : ft_hs h7 130 (h7 122 10).toNat 0 = h8
    have w := w h8 eh8.symm
    refine fv_aload_n (ft_d o_Co_addNode 53 rfl) rfl rfl ?_
    refine fv_dup (ft_d o_Co_addNode 54 rfl) rfl rfl ?_
    refine fv_getI (ft_d o_Co_addNode 55 rfl) rfl fl_Co_44 sh_122 rfl ?_
    refine fv_iconst (ft_d o_Co_addNode 56 rfl) rfl rfl ?_
    refine fv_iadd (ft_d o_Co_addNode 57 rfl) rfl ?_
    refine fv_putI (ft_d o_Co_addNode 58 rfl) rfl fl_Co_44 rfl rfl sh_122 rfl ?_
    generalize eh9 : ft_hs h8 122 10 (ft_add (h8 122 10) 1) = h9
    have w := w h9 eh9.symm
    exact fv_return (ft_d o_Co_addNode 59 rfl) rfl w
  · have w := w.2 c
    exact fv_return (ft_d o_Co_addNode 4 rfl) rfl w
set_option maxRecDepth 20000 in
theorem b_Co_open_0 {x1 : Int} {r2 : Nat} {h : ftH} {R : Option ftV → ftH → Prop} (hr2 : ft_sh r2 = some (.inl 4))
    (w : ((0 ≤ x1 ∧ x1 < 360) ∧ (∀ n1 : Int, n1 = h 124 x1.toNat → ((0 ≤ x1 ∧ x1 < 360) ∧ (∀ n2 : Int, n2 = h 125 x1.toNat → ((n2 ≤ n1 → ft_V k_Co_open 52 [some (.inr (.inr 122)), some (.inl x1), some (.inr (.inr r2)), some (.inl n1), some (.inl n2), none, none, none, none, none, none, none, none] [] h R) ∧ (¬ (n2 ≤ n1) → ((0 ≤ n1 ∧ n1 < (ft_ln (r2 + 1))) ∧ ((0 ≤ x1 ∧ x1 < 360) ∧ ((¬ (h (r2 + 1) n1.toNat = h 123 x1.toNat) → ft_V k_Co_open 52 [some (.inr (.inr 122)), some (.inl x1), some (.inr (.inr r2)), some (.inl n1), some (.inl n2), none, none, none, none, none, none, none, none] [] h R) ∧ (h (r2 + 1) n1.toNat = h 123 x1.toNat → ((0 ≤ n1 ∧ n1 < (ft_ln (r2 + 2))) ∧ ((0 ≤ x1 ∧ x1 < 360) ∧ (∀ h1 : ftH, h1 = ft_hs h 127 x1.toNat (h (r2 + 2) n1.toNat) → ft_V k_Co_open 52 [some (.inr (.inr 122)), some (.inl x1), some (.inr (.inr r2)), some (.inl (ft_add n1 1)), some (.inl n2), none, none, none, none, none, none, none, none] [] h1 R)))))))))))))) : ft_V k_Co_open 0 [some (.inr (.inr 122)), some (.inl x1), some (.inr (.inr r2)), none, none, none, none, none, none, none, none, none, none] [] h R := by
  refine fv_aload_n (ft_d o_Co_open 0 rfl) rfl rfl ?_
  refine fv_getR (b := 124) (ft_d o_Co_open 1 rfl) rfl fl_Co_15 sh_122 rfl ly_122_1 ?_
  refine fv_iload_n (ft_d o_Co_open 2 rfl) rfl rfl ?_
  refine fv_iald (ft_d o_Co_open 3 rfl) rfl sh_124 w.1 ?_
  have w := w.2
  generalize en1 : h 124 x1.toNat = n1
  have w := w n1 en1.symm
  refine fv_istore_n (L' := [some (.inr (.inr 122)), some (.inl x1), some (.inr (.inr r2)), some (.inl n1), none, none, none, none, none, none, none, none, none]) (ft_d o_Co_open 4 rfl) rfl (Nat.le_of_ble_eq_true rfl) rfl ?_
  refine fv_aload_n (ft_d o_Co_open 5 rfl) rfl rfl ?_
  refine fv_getR (b := 125) (ft_d o_Co_open 6 rfl) rfl fl_Co_19 sh_122 rfl ly_122_2 ?_
  refine fv_iload_n (ft_d o_Co_open 7 rfl) rfl rfl ?_
  refine fv_iald (ft_d o_Co_open 8 rfl) rfl sh_125 w.1 ?_
  have w := w.2
  generalize en2 : h 125 x1.toNat = n2
  have w := w n2 en2.symm
  refine fv_istore (L' := [some (.inr (.inr 122)), some (.inl x1), some (.inr (.inr r2)), some (.inl n1), some (.inl n2), none, none, none, none, none, none, none, none]) (ft_d o_Co_open 9 rfl) rfl (Nat.le_of_ble_eq_true rfl) rfl ?_
  refine fv_iload_n (ft_d o_Co_open 10 rfl) rfl rfl ?_
  refine fv_iload (ft_d o_Co_open 11 rfl) rfl rfl ?_
  refine fv_icmp_ge (tgt := 52) (ft_d o_Co_open 12 rfl) rfl rfl (fun c => ?_) (fun c => ?_)
  · have w := w.1 c
    exact w
  · have w := w.2 c
    refine fv_aload_n (ft_d o_Co_open 13 rfl) rfl rfl ?_
    refine fv_getR (b := r2 + 1) (ft_d o_Co_open 14 rfl) rfl fl_Co_77 hr2 rfl (lyc_4_0 hr2) ?_
    refine fv_iload_n (ft_d o_Co_open 15 rfl) rfl rfl ?_
    refine fv_lald (ft_d o_Co_open 16 rfl) rfl (shc_4_0 hr2) w.1 ?_
    have w := w.2
    refine fv_aload_n (ft_d o_Co_open 17 rfl) rfl rfl ?_
    refine fv_getR (b := 123) (ft_d o_Co_open 18 rfl) rfl fl_Co_11 sh_122 rfl ly_122_0 ?_
    refine fv_iload_n (ft_d o_Co_open 19 rfl) rfl rfl ?_
    refine fv_lald (ft_d o_Co_open 20 rfl) rfl sh_123 w.1 ?_
    have w := w.2
    refine fv_lcmp_ne (tgt := 52) (ft_d o_Co_open 21 rfl) (ft_d o_Co_open 22 rfl) rfl rfl (fun c => ?_) (fun c => ?_)
    · have w := w.1 c
      exact w
    · have w := w.2 c
      refine fv_aload_n (ft_d o_Co_open 23 rfl) rfl rfl ?_
      refine fv_getR (b := 127) (ft_d o_Co_open 24 rfl) rfl fl_Co_25 sh_122 rfl ly_122_4 ?_
      refine fv_iload_n (ft_d o_Co_open 25 rfl) rfl rfl ?_
      refine fv_aload_n (ft_d o_Co_open 26 rfl) rfl rfl ?_
      refine fv_getR (b := r2 + 2) (ft_d o_Co_open 27 rfl) rfl fl_Co_78 hr2 rfl (lyc_4_1 hr2) ?_
      refine fv_iload_n (ft_d o_Co_open 28 rfl) rfl rfl ?_
      refine fv_iald (ft_d o_Co_open 29 rfl) rfl (shc_4_1 hr2) w.1 ?_
      have w := w.2
      refine fv_iast (ft_d o_Co_open 30 rfl) rfl sh_127 w.1 ?_
      have w := w.2
      generalize eh1 : ft_hs h 127 x1.toNat (h (r2 + 2) n1.toNat) = h1
      have w := w h1 eh1.symm
      refine fv_iinc (L' := [some (.inr (.inr 122)), some (.inl x1), some (.inr (.inr r2)), some (.inl (ft_add n1 1)), some (.inl n2), none, none, none, none, none, none, none, none]) (ft_d o_Co_open 31 rfl) rfl rfl (Nat.le_of_ble_eq_true rfl) rfl ?_
      exact w
set_option maxRecDepth 20000 in
theorem b_Co_open_52 {x1 : Int} {r2 : Nat} {x3 : Int} {x4 : Int} {h : ftH} {R : Option ftV → ftH → Prop} (hr2 : ft_sh r2 = some (.inl 4))
    (w : ((x3 < x4 → ((0 ≤ x1 ∧ x1 < 360) ∧ ((0 ≤ (h 123 x1.toNat)) ∧ (∀ n3 : Int, n3 = (h 123 x1.toNat) / 64 → ((0 ≤ x1 ∧ x1 < 360) ∧ ((0 ≤ (h 123 x1.toNat)) ∧ (∀ n6 : Int, n6 = (h 123 x1.toNat) % 64 → ((0 ≤ x3 ∧ x3 < (ft_ln (r2 + 1))) ∧ ((0 ≤ ft_sub x4 1 ∧ ft_sub x4 1 < (ft_ln (r2 + 1))) ∧ (∃ R7 : Option ftV → ftH → Prop, ft_C k_Co_commonLength [.inr (.inl (h (r2 + 1) x3.toNat)), .inr (.inl (h (r2 + 1) (ft_sub x4 1).toNat)), .inl n6] h R7 ∧ ∀ (z9 : Int) (h1 : ftH), ft_in z9 → R7 (some (.inl z9)) h1 → ((z9 ≤ ft_add n6 1 → ((0 ≤ x1 ∧ x1 < 360) ∧ (∀ h2 : ftH, h2 = ft_hs h1 128 x1.toNat 1 → (∀ n10 : Int, n10 = ft_ushrL 4294967296 (ft_add n6 1) → ft_V k_Co_open 181 [some (.inr (.inr 122)), some (.inl x1), some (.inr (.inr r2)), some (.inl x3), some (.inl x4), some (.inr (.inl n3)), none, some (.inl n6), none, some (.inr (.inl n10)), none, some (.inl x3), none] [] h2 R)))) ∧ (¬ (z9 ≤ ft_add n6 1) → ((0 ≤ x3 ∧ x3 < (ft_ln (r2 + 1))) ∧ ((0 ≤ (h1 (r2 + 1) x3.toNat)) ∧ (∀ n13 : Int, n13 = (h1 (r2 + 1) x3.toNat) / 64 → (∀ n14 : Int, n14 = ft_subL n13 (ft_andL n13 (ft_subL (ft_ushrL 4294967296 z9) 1)) → (((0 ≤ n14 ∧ n14 < 4294967296) ∧ (0 ≤ z9 ∧ z9 ≤ 32)) ∧ ((0 ≤ x1 ∧ x1 < 360) ∧ (∃ R17 : Option ftV → ftH → Prop, ft_C k_Co_addNode [.inr (.inr 122), .inr (.inl (64 * n14 + z9)), .inl x3, .inl x4, .inl x1, .inl (h1 127 x1.toNat)] h1 R17 ∧ ∀ h3 : ftH, R17 none h3 → R none h3))))))))))))))))))) ∧ (¬ (x3 < x4) → R none h))) : ft_V k_Co_open 52 [some (.inr (.inr 122)), some (.inl x1), some (.inr (.inr r2)), some (.inl x3), some (.inl x4), none, none, none, none, none, none, none, none] [] h R := by
  refine fv_iload_n (ft_d o_Co_open 32 rfl) rfl rfl ?_
  refine fv_iload (ft_d o_Co_open 33 rfl) rfl rfl ?_
  refine fv_icmp_lt (tgt := 59) (ft_d o_Co_open 34 rfl) rfl rfl (fun c => ?_) (fun c => ?_)
  · have w := w.1 c
    refine fv_aload_n (ft_d o_Co_open 36 rfl) rfl rfl ?_
    refine fv_getR (b := 123) (ft_d o_Co_open 37 rfl) rfl fl_Co_11 sh_122 rfl ly_122_0 ?_
    refine fv_iload_n (ft_d o_Co_open 38 rfl) rfl rfl ?_
    refine fv_lald (ft_d o_Co_open 39 rfl) rfl sh_123 w.1 ?_
    have w := w.2
    refine fv_calllf (st := []) (z := (h 123 x1.toNat) / 64) rfl rfl (ft_mm (pre := [.inr (.inl (h 123 x1.toNat))]) rfl) (ft_rnSN (K' := k_FT_startOf) (As := [.inr (.inl (h 123 x1.toNat))]) (host := "ForwardingTable") (ft_d o_Co_open 40 rfl) (by decide) lz_FT_startOf lw_FT_startOf ⟨rfl, rfl, Nat.le_of_ble_eq_true rfl, Nat.le_of_ble_eq_true rfl⟩ rfl rfl (Nat.le_of_ble_eq_true rfl) (c_FT_startOf w.1)) ?_
    have w := w.2
    generalize en3 : (h 123 x1.toNat) / 64 = n3
    have w := w n3 en3.symm
    refine fv_lstore (L' := [some (.inr (.inr 122)), some (.inl x1), some (.inr (.inr r2)), some (.inl x3), some (.inl x4), some (.inr (.inl n3)), none, none, none, none, none, none, none]) (ft_d o_Co_open 41 rfl) rfl (Nat.le_of_ble_eq_true rfl) rfl ?_
    refine fv_aload_n (ft_d o_Co_open 42 rfl) rfl rfl ?_
    refine fv_getR (b := 123) (ft_d o_Co_open 43 rfl) rfl fl_Co_11 sh_122 rfl ly_122_0 ?_
    refine fv_iload_n (ft_d o_Co_open 44 rfl) rfl rfl ?_
    refine fv_lald (ft_d o_Co_open 45 rfl) rfl sh_123 w.1 ?_
    have w := w.2
    refine fv_callif (st := []) (z := (h 123 x1.toNat) % 64) (Or.inl rfl) rfl (ft_mm (pre := [.inr (.inl (h 123 x1.toNat))]) rfl) (ft_rnSN (K' := k_FT_lengthOf) (As := [.inr (.inl (h 123 x1.toNat))]) (host := "ForwardingTable") (ft_d o_Co_open 46 rfl) (by decide) lz_FT_lengthOf lw_FT_lengthOf ⟨rfl, rfl, Nat.le_of_ble_eq_true rfl, Nat.le_of_ble_eq_true rfl⟩ rfl rfl (Nat.le_of_ble_eq_true rfl) (c_FT_lengthOf w.1)) ?_
    have w := w.2
    generalize en6 : (h 123 x1.toNat) % 64 = n6
    have w := w n6 en6.symm
    refine fv_istore (L' := [some (.inr (.inr 122)), some (.inl x1), some (.inr (.inr r2)), some (.inl x3), some (.inl x4), some (.inr (.inl n3)), none, some (.inl n6), none, none, none, none, none]) (ft_d o_Co_open 47 rfl) rfl (Nat.le_of_ble_eq_true rfl) rfl ?_
    refine fv_aload_n (ft_d o_Co_open 48 rfl) rfl rfl ?_
    refine fv_getR (b := r2 + 1) (ft_d o_Co_open 49 rfl) rfl fl_Co_77 hr2 rfl (lyc_4_0 hr2) ?_
    refine fv_iload_n (ft_d o_Co_open 50 rfl) rfl rfl ?_
    refine fv_lald (ft_d o_Co_open 51 rfl) rfl (shc_4_0 hr2) w.1 ?_
    have w := w.2
    refine fv_aload_n (ft_d o_Co_open 52 rfl) rfl rfl ?_
    refine fv_getR (b := r2 + 1) (ft_d o_Co_open 53 rfl) rfl fl_Co_77 hr2 rfl (lyc_4_0 hr2) ?_
    refine fv_iload (ft_d o_Co_open 54 rfl) rfl rfl ?_
    refine fv_iconst (ft_d o_Co_open 55 rfl) rfl rfl ?_
    refine fv_isub (ft_d o_Co_open 56 rfl) rfl ?_
    refine fv_lald (ft_d o_Co_open 57 rfl) rfl (shc_4_0 hr2) w.1 ?_
    have w := w.2
    refine fv_iload (ft_d o_Co_open 58 rfl) rfl rfl ?_
    obtain ⟨R7, c8, w⟩ := w
    refine fv_calli (st := []) (Or.inl rfl) rfl (ft_mm (pre := [.inl n6, .inr (.inl (h (r2 + 1) (ft_sub x4 1).toNat)), .inr (.inl (h (r2 + 1) x3.toNat))]) rfl) (ft_rnS (K' := k_Co_commonLength) (As := [.inr (.inl (h (r2 + 1) x3.toNat)), .inr (.inl (h (r2 + 1) (ft_sub x4 1).toNat)), .inl n6]) (ft_d o_Co_open 59 rfl) ml_Co_89 lz_Co_commonLength rfl lw_Co_commonLength ⟨rfl, rfl, Nat.le_of_ble_eq_true rfl, Nat.le_of_ble_eq_true rfl⟩ rfl rfl (Nat.le_of_ble_eq_true rfl) c8) (fun z9 h1 hz hw => ?_)
    have w := w z9 h1 hz hw
    refine fv_istore (L' := [some (.inr (.inr 122)), some (.inl x1), some (.inr (.inr r2)), some (.inl x3), some (.inl x4), some (.inr (.inl n3)), none, some (.inl n6), some (.inl z9), none, none, none, none]) (ft_d o_Co_open 60 rfl) rfl (Nat.le_of_ble_eq_true rfl) rfl ?_
    refine fv_iload (ft_d o_Co_open 61 rfl) rfl rfl ?_
    refine fv_iload (ft_d o_Co_open 62 rfl) rfl rfl ?_
    refine fv_iconst (ft_d o_Co_open 63 rfl) rfl rfl ?_
    refine fv_iadd (ft_d o_Co_open 64 rfl) rfl ?_
    refine fv_icmp_le (tgt := 161) (ft_d o_Co_open 65 rfl) rfl rfl (fun c => ?_) (fun c => ?_)
    · have w := w.1 c
      refine fv_aload_n (ft_d o_Co_open 95 rfl) rfl rfl ?_
      refine fv_getR (b := 128) (ft_d o_Co_open 96 rfl) rfl fl_Co_28 sh_122 rfl ly_122_5 ?_
      refine fv_iload_n (ft_d o_Co_open 97 rfl) rfl rfl ?_
      refine fv_iconst (ft_d o_Co_open 98 rfl) rfl rfl ?_
      refine fv_zast (ft_d o_Co_open 99 rfl) rfl sh_128 w.1 (Or.inr rfl) ?_
      have w := w.2
      generalize eh2 : ft_hs h1 128 x1.toNat 1 = h2
      have w := w h2 eh2.symm
      refine fv_ldc2 (v := 4294967296) (z := 4294967296) (ft_d o_Co_open 100 rfl) rfl (ft_gt 684 (by decide +kernel) rfl) rfl ?_
      refine fv_iload (ft_d o_Co_open 101 rfl) rfl rfl ?_
      refine fv_iconst (ft_d o_Co_open 102 rfl) rfl rfl ?_
      refine fv_iadd (ft_d o_Co_open 103 rfl) rfl ?_
      refine fv_lushr (ft_d o_Co_open 104 rfl) rfl ?_
      generalize en10 : ft_ushrL 4294967296 (ft_add n6 1) = n10
      have w := w n10 en10.symm
      refine fv_lstore (L' := [some (.inr (.inr 122)), some (.inl x1), some (.inr (.inr r2)), some (.inl x3), some (.inl x4), some (.inr (.inl n3)), none, some (.inl n6), some (.inl z9), some (.inr (.inl n10)), none, none, none]) (ft_d o_Co_open 105 rfl) rfl (Nat.le_of_ble_eq_true rfl) rfl ?_
      refine fv_iload_n (ft_d o_Co_open 106 rfl) rfl rfl ?_
      refine fv_istore (L' := [some (.inr (.inr 122)), some (.inl x1), some (.inr (.inr r2)), some (.inl x3), some (.inl x4), some (.inr (.inl n3)), none, some (.inl n6), some (.inl z9), some (.inr (.inl n10)), none, some (.inl x3), none]) (ft_d o_Co_open 107 rfl) rfl (Nat.le_of_ble_eq_true rfl) rfl ?_
      refine fv_mask (M := [true, true, true, true, true, true, false, true, false, true, false, true, false]) rfl ?_
      exact w
    · have w := w.2 c
      refine fv_aload_n (ft_d o_Co_open 66 rfl) rfl rfl ?_
      refine fv_getR (b := r2 + 1) (ft_d o_Co_open 67 rfl) rfl fl_Co_77 hr2 rfl (lyc_4_0 hr2) ?_
      refine fv_iload_n (ft_d o_Co_open 68 rfl) rfl rfl ?_
      refine fv_lald (ft_d o_Co_open 69 rfl) rfl (shc_4_0 hr2) w.1 ?_
      have w := w.2
      refine fv_calllf (st := []) (z := (h1 (r2 + 1) x3.toNat) / 64) rfl rfl (ft_mm (pre := [.inr (.inl (h1 (r2 + 1) x3.toNat))]) rfl) (ft_rnSN (K' := k_FT_startOf) (As := [.inr (.inl (h1 (r2 + 1) x3.toNat))]) (host := "ForwardingTable") (ft_d o_Co_open 70 rfl) (by decide) lz_FT_startOf lw_FT_startOf ⟨rfl, rfl, Nat.le_of_ble_eq_true rfl, Nat.le_of_ble_eq_true rfl⟩ rfl rfl (Nat.le_of_ble_eq_true rfl) (c_FT_startOf w.1)) ?_
      have w := w.2
      generalize en13 : (h1 (r2 + 1) x3.toNat) / 64 = n13
      have w := w n13 en13.symm
      refine fv_lstore (L' := [some (.inr (.inr 122)), some (.inl x1), some (.inr (.inr r2)), some (.inl x3), some (.inl x4), some (.inr (.inl n3)), none, some (.inl n6), some (.inl z9), some (.inr (.inl n13)), none, none, none]) (ft_d o_Co_open 71 rfl) rfl (Nat.le_of_ble_eq_true rfl) rfl ?_
      refine fv_lload (ft_d o_Co_open 72 rfl) rfl rfl ?_
      refine fv_lload (ft_d o_Co_open 73 rfl) rfl rfl ?_
      refine fv_ldc2 (v := 4294967296) (z := 4294967296) (ft_d o_Co_open 74 rfl) rfl (ft_gt 684 (by decide +kernel) rfl) rfl ?_
      refine fv_iload (ft_d o_Co_open 75 rfl) rfl rfl ?_
      refine fv_lushr (ft_d o_Co_open 76 rfl) rfl ?_
      refine fv_lconst (z := 1) (ft_d o_Co_open 77 rfl) rfl rfl ?_
      refine fv_lsub (ft_d o_Co_open 78 rfl) rfl ?_
      refine fv_land (ft_d o_Co_open 79 rfl) rfl ?_
      refine fv_lsub (ft_d o_Co_open 80 rfl) rfl ?_
      generalize en14 : ft_subL n13 (ft_andL n13 (ft_subL (ft_ushrL 4294967296 z9) 1)) = n14
      have w := w n14 en14.symm
      refine fv_lstore (L' := [some (.inr (.inr 122)), some (.inl x1), some (.inr (.inr r2)), some (.inl x3), some (.inl x4), some (.inr (.inl n3)), none, some (.inl n6), some (.inl z9), some (.inr (.inl n13)), none, some (.inr (.inl n14)), none]) (ft_d o_Co_open 81 rfl) rfl (Nat.le_of_ble_eq_true rfl) rfl ?_
      refine fv_aload_n (ft_d o_Co_open 82 rfl) rfl rfl ?_
      refine fv_lload (ft_d o_Co_open 83 rfl) rfl rfl ?_
      refine fv_iload (ft_d o_Co_open 84 rfl) rfl rfl ?_
      refine fv_calllf (st := [.inr (.inr 122)]) (z := 64 * n14 + z9) rfl rfl (ft_mm (pre := [.inl z9, .inr (.inl n14)]) rfl) (ft_rnSN (K' := k_FT_keyOf) (As := [.inr (.inl n14), .inl z9]) (host := "ForwardingTable") (ft_d o_Co_open 85 rfl) (by decide) lz_FT_keyOf lw_FT_keyOf ⟨rfl, rfl, Nat.le_of_ble_eq_true rfl, Nat.le_of_ble_eq_true rfl⟩ rfl rfl (Nat.le_of_ble_eq_true rfl) (c_FT_keyOf w.1)) ?_
      have w := w.2
      refine fv_iload_n (ft_d o_Co_open 86 rfl) rfl rfl ?_
      refine fv_iload (ft_d o_Co_open 87 rfl) rfl rfl ?_
      refine fv_iload_n (ft_d o_Co_open 88 rfl) rfl rfl ?_
      refine fv_aload_n (ft_d o_Co_open 89 rfl) rfl rfl ?_
      refine fv_getR (b := 127) (ft_d o_Co_open 90 rfl) rfl fl_Co_25 sh_122 rfl ly_122_4 ?_
      refine fv_iload_n (ft_d o_Co_open 91 rfl) rfl rfl ?_
      refine fv_iald (ft_d o_Co_open 92 rfl) rfl sh_127 w.1 ?_
      have w := w.2
      obtain ⟨R17, c18, w⟩ := w
      refine fv_callv (st := []) rfl rfl (ft_mm (pre := [.inl (h1 127 x1.toNat), .inl x1, .inl x4, .inl x3, .inr (.inl (64 * n14 + z9)), .inr (.inr 122)]) rfl) (ft_rnV (K' := k_Co_addNode) (As := [.inr (.inl (64 * n14 + z9)), .inl x3, .inl x4, .inl x1, .inl (h1 127 x1.toNat)]) (ft_d o_Co_open 93 rfl) ml_Co_57 li_Co_addNode.1 li_Co_addNode.2 lw_Co_addNode ⟨rfl, rfl, Nat.le_of_ble_eq_true rfl, Nat.le_of_ble_eq_true rfl⟩ sh_122 rfl rfl rfl rfl (Nat.le_of_ble_eq_true rfl) c18) (fun h3 hw => ?_)
      have w := w h3 hw
      exact fv_return (ft_d o_Co_open 94 rfl) rfl w
  · have w := w.2 c
    exact fv_return (ft_d o_Co_open 35 rfl) rfl w
set_option maxRecDepth 20000 in
theorem b_Co_open_181 {x1 : Int} {r2 : Nat} {x3 : Int} {x4 : Int} {x5 : Int} {x7 : Int} {x9 : Int} {x11 : Int} {h : ftH} {R : Option ftV → ftH → Prop} (hr2 : ft_sh r2 = some (.inl 4))
    (w : ((x4 ≤ x11 → ft_V k_Co_open 213 [some (.inr (.inr 122)), some (.inl x1), none, some (.inl x3), some (.inl x4), some (.inr (.inl x5)), none, some (.inl x7), none, some (.inr (.inl x9)), none, some (.inl x11), none] [] h R) ∧ (¬ (x4 ≤ x11) → ((0 ≤ x11 ∧ x11 < (ft_ln (r2 + 1))) ∧ ((0 ≤ (h (r2 + 1) x11.toNat)) ∧ ((ft_addL x5 x9 ≤ (h (r2 + 1) x11.toNat) / 64 → ft_V k_Co_open 213 [some (.inr (.inr 122)), some (.inl x1), none, some (.inl x3), some (.inl x4), some (.inr (.inl x5)), none, some (.inl x7), none, some (.inr (.inl x9)), none, some (.inl x11), none] [] h R) ∧ (¬ (ft_addL x5 x9 ≤ (h (r2 + 1) x11.toNat) / 64) → ft_V k_Co_open 181 [some (.inr (.inr 122)), some (.inl x1), some (.inr (.inr r2)), some (.inl x3), some (.inl x4), some (.inr (.inl x5)), none, some (.inl x7), none, some (.inr (.inl x9)), none, some (.inl (ft_add x11 1)), none] [] h R))))))) : ft_V k_Co_open 181 [some (.inr (.inr 122)), some (.inl x1), some (.inr (.inr r2)), some (.inl x3), some (.inl x4), some (.inr (.inl x5)), none, some (.inl x7), none, some (.inr (.inl x9)), none, some (.inl x11), none] [] h R := by
  refine fv_iload (ft_d o_Co_open 108 rfl) rfl rfl ?_
  refine fv_iload (ft_d o_Co_open 109 rfl) rfl rfl ?_
  refine fv_icmp_ge (tgt := 213) (ft_d o_Co_open 110 rfl) rfl rfl (fun c => ?_) (fun c => ?_)
  · have w := w.1 c
    refine fv_mask (M := [true, true, false, true, true, true, false, true, false, true, false, true, false]) rfl ?_
    exact w
  · have w := w.2 c
    refine fv_aload_n (ft_d o_Co_open 111 rfl) rfl rfl ?_
    refine fv_getR (b := r2 + 1) (ft_d o_Co_open 112 rfl) rfl fl_Co_77 hr2 rfl (lyc_4_0 hr2) ?_
    refine fv_iload (ft_d o_Co_open 113 rfl) rfl rfl ?_
    refine fv_lald (ft_d o_Co_open 114 rfl) rfl (shc_4_0 hr2) w.1 ?_
    have w := w.2
    refine fv_calllf (st := []) (z := (h (r2 + 1) x11.toNat) / 64) rfl rfl (ft_mm (pre := [.inr (.inl (h (r2 + 1) x11.toNat))]) rfl) (ft_rnSN (K' := k_FT_startOf) (As := [.inr (.inl (h (r2 + 1) x11.toNat))]) (host := "ForwardingTable") (ft_d o_Co_open 115 rfl) (by decide) lz_FT_startOf lw_FT_startOf ⟨rfl, rfl, Nat.le_of_ble_eq_true rfl, Nat.le_of_ble_eq_true rfl⟩ rfl rfl (Nat.le_of_ble_eq_true rfl) (c_FT_startOf w.1)) ?_
    have w := w.2
    refine fv_lload (ft_d o_Co_open 116 rfl) rfl rfl ?_
    refine fv_lload (ft_d o_Co_open 117 rfl) rfl rfl ?_
    refine fv_ladd (ft_d o_Co_open 118 rfl) rfl ?_
    refine fv_lcmp_ge (tgt := 213) (ft_d o_Co_open 119 rfl) (ft_d o_Co_open 120 rfl) rfl rfl (fun c => ?_) (fun c => ?_)
    · have w := w.1 c
      refine fv_mask (M := [true, true, false, true, true, true, false, true, false, true, false, true, false]) rfl ?_
      exact w
    · have w := w.2 c
      refine fv_iinc (L' := [some (.inr (.inr 122)), some (.inl x1), some (.inr (.inr r2)), some (.inl x3), some (.inl x4), some (.inr (.inl x5)), none, some (.inl x7), none, some (.inr (.inl x9)), none, some (.inl (ft_add x11 1)), none]) (ft_d o_Co_open 121 rfl) rfl rfl (Nat.le_of_ble_eq_true rfl) rfl ?_
      refine fv_goto (pc' := 181) (ft_d o_Co_open 122 rfl) rfl ?_
      exact w
set_option maxRecDepth 20000 in
theorem b_Co_open_213 {x1 : Int} {x3 : Int} {x4 : Int} {x5 : Int} {x7 : Int} {x9 : Int} {x11 : Int} {h : ftH} {R : Option ftV → ftH → Prop} 
    (w : (((0 ≤ x5 ∧ x5 < 4294967296) ∧ (0 ≤ (ft_add x7 1) ∧ (ft_add x7 1) ≤ 32)) ∧ ((0 ≤ x1 ∧ x1 < 360) ∧ (∃ R3 : Option ftV → ftH → Prop, ft_C k_Co_addNode [.inr (.inr 122), .inr (.inl (64 * x5 + (ft_add x7 1))), .inl x3, .inl x11, .inl x1, .inl (h 127 x1.toNat)] h R3 ∧ ∀ h1 : ftH, R3 none h1 → (((0 ≤ (ft_addL x5 x9) ∧ (ft_addL x5 x9) < 4294967296) ∧ (0 ≤ (ft_add x7 1) ∧ (ft_add x7 1) ≤ 32)) ∧ ((0 ≤ x1 ∧ x1 < 360) ∧ (∃ R7 : Option ftV → ftH → Prop, ft_C k_Co_addNode [.inr (.inr 122), .inr (.inl (64 * (ft_addL x5 x9) + (ft_add x7 1))), .inl x11, .inl x4, .inl x1, .inl (h1 127 x1.toNat)] h1 R7 ∧ ∀ h2 : ftH, R7 none h2 → R none h2))))))) : ft_V k_Co_open 213 [some (.inr (.inr 122)), some (.inl x1), none, some (.inl x3), some (.inl x4), some (.inr (.inl x5)), none, some (.inl x7), none, some (.inr (.inl x9)), none, some (.inl x11), none] [] h R := by
  refine fv_aload_n (ft_d o_Co_open 123 rfl) rfl rfl ?_
  refine fv_lload (ft_d o_Co_open 124 rfl) rfl rfl ?_
  refine fv_iload (ft_d o_Co_open 125 rfl) rfl rfl ?_
  refine fv_iconst (ft_d o_Co_open 126 rfl) rfl rfl ?_
  refine fv_iadd (ft_d o_Co_open 127 rfl) rfl ?_
  refine fv_calllf (st := [.inr (.inr 122)]) (z := 64 * x5 + (ft_add x7 1)) rfl rfl (ft_mm (pre := [.inl (ft_add x7 1), .inr (.inl x5)]) rfl) (ft_rnSN (K' := k_FT_keyOf) (As := [.inr (.inl x5), .inl (ft_add x7 1)]) (host := "ForwardingTable") (ft_d o_Co_open 128 rfl) (by decide) lz_FT_keyOf lw_FT_keyOf ⟨rfl, rfl, Nat.le_of_ble_eq_true rfl, Nat.le_of_ble_eq_true rfl⟩ rfl rfl (Nat.le_of_ble_eq_true rfl) (c_FT_keyOf w.1)) ?_
  have w := w.2
  refine fv_iload_n (ft_d o_Co_open 129 rfl) rfl rfl ?_
  refine fv_iload (ft_d o_Co_open 130 rfl) rfl rfl ?_
  refine fv_iload_n (ft_d o_Co_open 131 rfl) rfl rfl ?_
  refine fv_aload_n (ft_d o_Co_open 132 rfl) rfl rfl ?_
  refine fv_getR (b := 127) (ft_d o_Co_open 133 rfl) rfl fl_Co_25 sh_122 rfl ly_122_4 ?_
  refine fv_iload_n (ft_d o_Co_open 134 rfl) rfl rfl ?_
  refine fv_iald (ft_d o_Co_open 135 rfl) rfl sh_127 w.1 ?_
  have w := w.2
  obtain ⟨R3, c4, w⟩ := w
  refine fv_callv (st := []) rfl rfl (ft_mm (pre := [.inl (h 127 x1.toNat), .inl x1, .inl x11, .inl x3, .inr (.inl (64 * x5 + (ft_add x7 1))), .inr (.inr 122)]) rfl) (ft_rnV (K' := k_Co_addNode) (As := [.inr (.inl (64 * x5 + (ft_add x7 1))), .inl x3, .inl x11, .inl x1, .inl (h 127 x1.toNat)]) (ft_d o_Co_open 136 rfl) ml_Co_57 li_Co_addNode.1 li_Co_addNode.2 lw_Co_addNode ⟨rfl, rfl, Nat.le_of_ble_eq_true rfl, Nat.le_of_ble_eq_true rfl⟩ sh_122 rfl rfl rfl rfl (Nat.le_of_ble_eq_true rfl) c4) (fun h1 hw => ?_)
  have w := w h1 hw
  refine fv_aload_n (ft_d o_Co_open 137 rfl) rfl rfl ?_
  refine fv_lload (ft_d o_Co_open 138 rfl) rfl rfl ?_
  refine fv_lload (ft_d o_Co_open 139 rfl) rfl rfl ?_
  refine fv_ladd (ft_d o_Co_open 140 rfl) rfl ?_
  refine fv_iload (ft_d o_Co_open 141 rfl) rfl rfl ?_
  refine fv_iconst (ft_d o_Co_open 142 rfl) rfl rfl ?_
  refine fv_iadd (ft_d o_Co_open 143 rfl) rfl ?_
  refine fv_calllf (st := [.inr (.inr 122)]) (z := 64 * (ft_addL x5 x9) + (ft_add x7 1)) rfl rfl (ft_mm (pre := [.inl (ft_add x7 1), .inr (.inl (ft_addL x5 x9))]) rfl) (ft_rnSN (K' := k_FT_keyOf) (As := [.inr (.inl (ft_addL x5 x9)), .inl (ft_add x7 1)]) (host := "ForwardingTable") (ft_d o_Co_open 144 rfl) (by decide) lz_FT_keyOf lw_FT_keyOf ⟨rfl, rfl, Nat.le_of_ble_eq_true rfl, Nat.le_of_ble_eq_true rfl⟩ rfl rfl (Nat.le_of_ble_eq_true rfl) (c_FT_keyOf w.1)) ?_
  have w := w.2
  refine fv_iload (ft_d o_Co_open 145 rfl) rfl rfl ?_
  refine fv_iload (ft_d o_Co_open 146 rfl) rfl rfl ?_
  refine fv_iload_n (ft_d o_Co_open 147 rfl) rfl rfl ?_
  refine fv_aload_n (ft_d o_Co_open 148 rfl) rfl rfl ?_
  refine fv_getR (b := 127) (ft_d o_Co_open 149 rfl) rfl fl_Co_25 sh_122 rfl ly_122_4 ?_
  refine fv_iload_n (ft_d o_Co_open 150 rfl) rfl rfl ?_
  refine fv_iald (ft_d o_Co_open 151 rfl) rfl sh_127 w.1 ?_
  have w := w.2
  obtain ⟨R7, c8, w⟩ := w
  refine fv_callv (st := []) rfl rfl (ft_mm (pre := [.inl (h1 127 x1.toNat), .inl x1, .inl x4, .inl x11, .inr (.inl (64 * (ft_addL x5 x9) + (ft_add x7 1))), .inr (.inr 122)]) rfl) (ft_rnV (K' := k_Co_addNode) (As := [.inr (.inl (64 * (ft_addL x5 x9) + (ft_add x7 1))), .inl x11, .inl x4, .inl x1, .inl (h1 127 x1.toNat)]) (ft_d o_Co_open 152 rfl) ml_Co_57 li_Co_addNode.1 li_Co_addNode.2 lw_Co_addNode ⟨rfl, rfl, Nat.le_of_ble_eq_true rfl, Nat.le_of_ble_eq_true rfl⟩ sh_122 rfl rfl rfl rfl (Nat.le_of_ble_eq_true rfl) c8) (fun h2 hw => ?_)
  have w := w h2 hw
  exact fv_return (ft_d o_Co_open 153 rfl) rfl w
set_option maxRecDepth 20000 in
theorem b_Co_commonLength_0 {x0 : Int} {x2 : Int} {x4 : Int} {h : ftH} {R : Option ftV → ftH → Prop} 
    (w : ((0 ≤ x0) ∧ ((0 ≤ x2) ∧ (∀ n5 : Int, n5 = ft_xorL (x0 / 64) (x2 / 64) → ft_V k_Co_commonLength 15 [some (.inr (.inl x0)), none, none, none, none, some (.inr (.inl n5)), none, some (.inl x4)] [] h R)))) : ft_V k_Co_commonLength 0 [some (.inr (.inl x0)), none, some (.inr (.inl x2)), none, some (.inl x4), none, none, none] [] h R := by
  refine fv_lload_n (ft_d o_Co_commonLength 0 rfl) rfl rfl ?_
  refine fv_calllf (st := []) (z := x0 / 64) rfl rfl (ft_mm (pre := [.inr (.inl x0)]) rfl) (ft_rnSN (K' := k_FT_startOf) (As := [.inr (.inl x0)]) (host := "ForwardingTable") (ft_d o_Co_commonLength 1 rfl) (by decide) lz_FT_startOf lw_FT_startOf ⟨rfl, rfl, Nat.le_of_ble_eq_true rfl, Nat.le_of_ble_eq_true rfl⟩ rfl rfl (Nat.le_of_ble_eq_true rfl) (c_FT_startOf w.1)) ?_
  have w := w.2
  refine fv_lload_n (ft_d o_Co_commonLength 2 rfl) rfl rfl ?_
  refine fv_calllf (st := [.inr (.inl (x0 / 64))]) (z := x2 / 64) rfl rfl (ft_mm (pre := [.inr (.inl x2)]) rfl) (ft_rnSN (K' := k_FT_startOf) (As := [.inr (.inl x2)]) (host := "ForwardingTable") (ft_d o_Co_commonLength 3 rfl) (by decide) lz_FT_startOf lw_FT_startOf ⟨rfl, rfl, Nat.le_of_ble_eq_true rfl, Nat.le_of_ble_eq_true rfl⟩ rfl rfl (Nat.le_of_ble_eq_true rfl) (c_FT_startOf w.1)) ?_
  have w := w.2
  refine fv_lxor (ft_d o_Co_commonLength 4 rfl) rfl ?_
  generalize en5 : ft_xorL (x0 / 64) (x2 / 64) = n5
  have w := w n5 en5.symm
  refine fv_lstore (L' := [some (.inr (.inl x0)), none, some (.inr (.inl x2)), none, some (.inl x4), some (.inr (.inl n5)), none, none]) (ft_d o_Co_commonLength 5 rfl) rfl (Nat.le_of_ble_eq_true rfl) rfl ?_
  refine fv_iload (ft_d o_Co_commonLength 6 rfl) rfl rfl ?_
  refine fv_istore (L' := [some (.inr (.inl x0)), none, some (.inr (.inl x2)), none, some (.inl x4), some (.inr (.inl n5)), none, some (.inl x4)]) (ft_d o_Co_commonLength 7 rfl) rfl (Nat.le_of_ble_eq_true rfl) rfl ?_
  refine fv_mask (M := [true, false, false, false, false, true, false, true]) rfl ?_
  exact w
set_option maxRecDepth 20000 in
theorem b_Co_commonLength_15 {x0 : Int} {x5 : Int} {x7 : Int} {h : ftH} {R : Option ftV → ftH → Prop} 
    (w : ((0 ≤ x0) ∧ ((x0 % 64 ≤ x7 → R (some (.inl x7)) h) ∧ (¬ (x0 % 64 ≤ x7) → ((¬ (ft_ushrL x5 (ft_sub 31 x7) = 0) → R (some (.inl x7)) h) ∧ (ft_ushrL x5 (ft_sub 31 x7) = 0 → ft_V k_Co_commonLength 15 [some (.inr (.inl x0)), none, none, none, none, some (.inr (.inl x5)), none, some (.inl (ft_add x7 1))] [] h R)))))) : ft_V k_Co_commonLength 15 [some (.inr (.inl x0)), none, none, none, none, some (.inr (.inl x5)), none, some (.inl x7)] [] h R := by
  refine fv_iload (ft_d o_Co_commonLength 8 rfl) rfl rfl ?_
  refine fv_lload_n (ft_d o_Co_commonLength 9 rfl) rfl rfl ?_
  refine fv_callif (st := [.inl x7]) (z := x0 % 64) (Or.inl rfl) rfl (ft_mm (pre := [.inr (.inl x0)]) rfl) (ft_rnSN (K' := k_FT_lengthOf) (As := [.inr (.inl x0)]) (host := "ForwardingTable") (ft_d o_Co_commonLength 10 rfl) (by decide) lz_FT_lengthOf lw_FT_lengthOf ⟨rfl, rfl, Nat.le_of_ble_eq_true rfl, Nat.le_of_ble_eq_true rfl⟩ rfl rfl (Nat.le_of_ble_eq_true rfl) (c_FT_lengthOf w.1)) ?_
  have w := w.2
  refine fv_icmp_ge (tgt := 43) (ft_d o_Co_commonLength 11 rfl) rfl rfl (fun c => ?_) (fun c => ?_)
  · have w := w.1 c
    refine fv_iload (ft_d o_Co_commonLength 22 rfl) rfl rfl ?_
    exact fv_ireturn (ft_d o_Co_commonLength 23 rfl) rfl w
  · have w := w.2 c
    refine fv_lload (ft_d o_Co_commonLength 12 rfl) rfl rfl ?_
    refine fv_bipush (ft_d o_Co_commonLength 13 rfl) rfl rfl ?_
    refine fv_iload (ft_d o_Co_commonLength 14 rfl) rfl rfl ?_
    refine fv_isub (ft_d o_Co_commonLength 15 rfl) rfl ?_
    refine fv_lushr (ft_d o_Co_commonLength 16 rfl) rfl ?_
    refine fv_lconst (z := 0) (ft_d o_Co_commonLength 17 rfl) rfl rfl ?_
    refine fv_lcmp_ne (tgt := 43) (ft_d o_Co_commonLength 18 rfl) (ft_d o_Co_commonLength 19 rfl) rfl rfl (fun c => ?_) (fun c => ?_)
    · have w := w.1 c
      refine fv_iload (ft_d o_Co_commonLength 22 rfl) rfl rfl ?_
      exact fv_ireturn (ft_d o_Co_commonLength 23 rfl) rfl w
    · have w := w.2 c
      refine fv_iinc (L' := [some (.inr (.inl x0)), none, none, none, none, some (.inr (.inl x5)), none, some (.inl (ft_add x7 1))]) (ft_d o_Co_commonLength 20 rfl) rfl rfl (Nat.le_of_ble_eq_true rfl) rfl ?_
      refine fv_goto (pc' := 15) (ft_d o_Co_commonLength 21 rfl) rfl ?_
      exact w
set_option maxRecDepth 20000 in
theorem b_Co_gatherSets_0  {h : ftH} {R : Option ftV → ftH → Prop} 
    (w : (∀ n1 : Int, n1 = ft_sub (h 122 10) 1 → ft_V k_Co_gatherSets 7 [some (.inr (.inr 122)), some (.inl n1), none] [] h R)) : ft_V k_Co_gatherSets 0 [some (.inr (.inr 122)), none, none] [] h R := by
  refine fv_aload_n (ft_d o_Co_gatherSets 0 rfl) rfl rfl ?_
  refine fv_getI (ft_d o_Co_gatherSets 1 rfl) rfl fl_Co_44 sh_122 rfl ?_
  refine fv_iconst (ft_d o_Co_gatherSets 2 rfl) rfl rfl ?_
  refine fv_isub (ft_d o_Co_gatherSets 3 rfl) rfl ?_
  generalize en1 : ft_sub (h 122 10) 1 = n1
  have w := w n1 en1.symm
  refine fv_istore_n (L' := [some (.inr (.inr 122)), some (.inl n1), none]) (ft_d o_Co_gatherSets 4 rfl) rfl (Nat.le_of_ble_eq_true rfl) rfl ?_
  exact w
set_option maxRecDepth 20000 in
theorem b_Co_gatherSets_7 {x1 : Int} {h : ftH} {R : Option ftV → ftH → Prop} 
    (w : ((x1 < 0 → R none h) ∧ (¬ (x1 < 0) → ((0 ≤ x1 ∧ x1 < 360) ∧ (∀ n3 : Int, n3 = (if h 128 x1.toNat = 0 then ft_shl 1 (h 127 x1.toNat) else if h 129 x1.toNat = 0 then h 130 x1.toNat else h 129 x1.toNat) → ((0 ≤ x1 ∧ x1 < 360) ∧ ((h 126 x1.toNat < 0 → ft_V k_Co_gatherSets 7 [some (.inr (.inr 122)), some (.inl (ft_add x1 (-1))), none] [] h R) ∧ (¬ (h 126 x1.toNat < 0) → ((0 ≤ x1 ∧ x1 < 360) ∧ ((0 ≤ h 126 x1.toNat ∧ h 126 x1.toNat < 360) ∧ ((0 ≤ h 126 x1.toNat ∧ h 126 x1.toNat < 360) ∧ (∀ h1 : ftH, h1 = ft_hs h 129 (h 126 x1.toNat).toNat (ft_and (h 129 (h 126 x1.toNat).toNat) n3) → ((0 ≤ x1 ∧ x1 < 360) ∧ ((0 ≤ h1 126 x1.toNat ∧ h1 126 x1.toNat < 360) ∧ ((0 ≤ h1 126 x1.toNat ∧ h1 126 x1.toNat < 360) ∧ (∀ h2 : ftH, h2 = ft_hs h1 130 (h1 126 x1.toNat).toNat (ft_or (h1 130 (h1 126 x1.toNat).toNat) n3) → ft_V k_Co_gatherSets 7 [some (.inr (.inr 122)), some (.inl (ft_add x1 (-1))), none] [] h2 R)))))))))))))))) : ft_V k_Co_gatherSets 7 [some (.inr (.inr 122)), some (.inl x1), none] [] h R := by
  refine fv_iload_n (ft_d o_Co_gatherSets 5 rfl) rfl rfl ?_
  refine fv_if_lt (tgt := 62) (ft_d o_Co_gatherSets 6 rfl) rfl rfl (fun c => ?_) (fun c => ?_)
  · have w := w.1 c
    exact fv_return (ft_d o_Co_gatherSets 40 rfl) rfl w
  · have w := w.2 c
    refine fv_aload_n (ft_d o_Co_gatherSets 7 rfl) rfl rfl ?_
    refine fv_iload_n (ft_d o_Co_gatherSets 8 rfl) rfl rfl ?_
    refine fv_callif (st := []) (z := (if h 128 x1.toNat = 0 then ft_shl 1 (h 127 x1.toNat) else if h 129 x1.toNat = 0 then h 130 x1.toNat else h 129 x1.toNat)) (Or.inl rfl) rfl (ft_mm (pre := [.inl x1, .inr (.inr 122)]) rfl) (ft_rnV (K' := k_Co_setOf) (As := [.inl x1]) (ft_d o_Co_gatherSets 9 rfl) ml_Co_95 li_Co_setOf.1 li_Co_setOf.2 lw_Co_setOf ⟨rfl, rfl, Nat.le_of_ble_eq_true rfl, Nat.le_of_ble_eq_true rfl⟩ sh_122 rfl rfl rfl rfl (Nat.le_of_ble_eq_true rfl) (c_Co_setOf w.1)) ?_
    have w := w.2
    generalize en3 : (if h 128 x1.toNat = 0 then ft_shl 1 (h 127 x1.toNat) else if h 129 x1.toNat = 0 then h 130 x1.toNat else h 129 x1.toNat) = n3
    have w := w n3 en3.symm
    refine fv_istore_n (L' := [some (.inr (.inr 122)), some (.inl x1), some (.inl n3)]) (ft_d o_Co_gatherSets 10 rfl) rfl (Nat.le_of_ble_eq_true rfl) rfl ?_
    refine fv_aload_n (ft_d o_Co_gatherSets 11 rfl) rfl rfl ?_
    refine fv_getR (b := 126) (ft_d o_Co_gatherSets 12 rfl) rfl fl_Co_22 sh_122 rfl ly_122_3 ?_
    refine fv_iload_n (ft_d o_Co_gatherSets 13 rfl) rfl rfl ?_
    refine fv_iald (ft_d o_Co_gatherSets 14 rfl) rfl sh_126 w.1 ?_
    have w := w.2
    refine fv_if_lt (tgt := 56) (ft_d o_Co_gatherSets 15 rfl) rfl rfl (fun c => ?_) (fun c => ?_)
    · have w := w.1 c
      refine fv_iinc (L' := [some (.inr (.inr 122)), some (.inl (ft_add x1 (-1))), some (.inl n3)]) (ft_d o_Co_gatherSets 38 rfl) rfl rfl (Nat.le_of_ble_eq_true rfl) rfl ?_
      refine fv_goto (pc' := 7) (ft_d o_Co_gatherSets 39 rfl) rfl ?_
      refine fv_mask (M := [true, true, false]) rfl ?_
      exact w
    · have w := w.2 c
      refine fv_aload_n (ft_d o_Co_gatherSets 16 rfl) rfl rfl ?_
      refine fv_getR (b := 129) (ft_d o_Co_gatherSets 17 rfl) rfl fl_Co_32 sh_122 rfl ly_122_6 ?_
      refine fv_aload_n (ft_d o_Co_gatherSets 18 rfl) rfl rfl ?_
      refine fv_getR (b := 126) (ft_d o_Co_gatherSets 19 rfl) rfl fl_Co_22 sh_122 rfl ly_122_3 ?_
      refine fv_iload_n (ft_d o_Co_gatherSets 20 rfl) rfl rfl ?_
      refine fv_iald (ft_d o_Co_gatherSets 21 rfl) rfl sh_126 w.1 ?_
      have w := w.2
      refine fv_dup2 (ft_d o_Co_gatherSets 22 rfl) rfl rfl rfl ?_
      refine fv_iald (ft_d o_Co_gatherSets 23 rfl) rfl sh_129 w.1 ?_
      have w := w.2
      refine fv_iload_n (ft_d o_Co_gatherSets 24 rfl) rfl rfl ?_
      refine fv_iand (ft_d o_Co_gatherSets 25 rfl) rfl ?_
      refine fv_iast (ft_d o_Co_gatherSets 26 rfl) rfl sh_129 w.1 ?_
      have w := w.2
      generalize eh1 : ft_hs h 129 (h 126 x1.toNat).toNat (ft_and (h 129 (h 126 x1.toNat).toNat) n3) = h1
      have w := w h1 eh1.symm
      refine fv_aload_n (ft_d o_Co_gatherSets 27 rfl) rfl rfl ?_
      refine fv_getR (b := 130) (ft_d o_Co_gatherSets 28 rfl) rfl fl_Co_35 sh_122 rfl ly_122_7 ?_
      refine fv_aload_n (ft_d o_Co_gatherSets 29 rfl) rfl rfl ?_
      refine fv_getR (b := 126) (ft_d o_Co_gatherSets 30 rfl) rfl fl_Co_22 sh_122 rfl ly_122_3 ?_
      refine fv_iload_n (ft_d o_Co_gatherSets 31 rfl) rfl rfl ?_
      refine fv_iald (ft_d o_Co_gatherSets 32 rfl) rfl sh_126 w.1 ?_
      have w := w.2
      refine fv_dup2 (ft_d o_Co_gatherSets 33 rfl) rfl rfl rfl ?_
      refine fv_iald (ft_d o_Co_gatherSets 34 rfl) rfl sh_130 w.1 ?_
      have w := w.2
      refine fv_iload_n (ft_d o_Co_gatherSets 35 rfl) rfl rfl ?_
      refine fv_ior (ft_d o_Co_gatherSets 36 rfl) rfl ?_
      refine fv_iast (ft_d o_Co_gatherSets 37 rfl) rfl sh_130 w.1 ?_
      have w := w.2
      generalize eh2 : ft_hs h1 130 (h1 126 x1.toNat).toNat (ft_or (h1 130 (h1 126 x1.toNat).toNat) n3) = h2
      have w := w h2 eh2.symm
      refine fv_iinc (L' := [some (.inr (.inr 122)), some (.inl (ft_add x1 (-1))), some (.inl n3)]) (ft_d o_Co_gatherSets 38 rfl) rfl rfl (Nat.le_of_ble_eq_true rfl) rfl ?_
      refine fv_goto (pc' := 7) (ft_d o_Co_gatherSets 39 rfl) rfl ?_
      refine fv_mask (M := [true, true, false]) rfl ?_
      exact w
set_option maxRecDepth 20000 in
theorem b_Co_handDown_0  {h : ftH} {R : Option ftV → ftH → Prop} 
    (w : ft_V k_Co_handDown 4 [some (.inr (.inr 122)), some (.inl 0), some (.inl 0), none, none] [] h R) : ft_V k_Co_handDown 0 [some (.inr (.inr 122)), none, none, none, none] [] h R := by
  refine fv_iconst (ft_d o_Co_handDown 0 rfl) rfl rfl ?_
  refine fv_istore_n (L' := [some (.inr (.inr 122)), some (.inl 0), none, none, none]) (ft_d o_Co_handDown 1 rfl) rfl (Nat.le_of_ble_eq_true rfl) rfl ?_
  refine fv_iconst (ft_d o_Co_handDown 2 rfl) rfl rfl ?_
  refine fv_istore_n (L' := [some (.inr (.inr 122)), some (.inl 0), some (.inl 0), none, none]) (ft_d o_Co_handDown 3 rfl) rfl (Nat.le_of_ble_eq_true rfl) rfl ?_
  exact w
set_option maxRecDepth 20000 in
theorem b_Co_handDown_4 {x1 : Int} {x2 : Int} {h : ftH} {R : Option ftV → ftH → Prop} 
    (w : ((h 122 10 ≤ x2 → R (some (.inl x1)) h) ∧ (¬ (h 122 10 ≤ x2) → ((0 ≤ x2 ∧ x2 < 360) ∧ ((0 ≤ h 126 x2.toNat → ((0 ≤ x2 ∧ x2 < 360) ∧ ((0 ≤ h 126 x2.toNat ∧ h 126 x2.toNat < 360) ∧ (∀ n1 : Int, n1 = h 131 (h 126 x2.toNat).toNat → ((0 ≤ x2 ∧ x2 < 360) ∧ (∀ n4 : Int, n4 = (if h 128 x2.toNat = 0 then ft_shl 1 (h 127 x2.toNat) else if h 129 x2.toNat = 0 then h 130 x2.toNat else h 129 x2.toNat) → ((ft_and n4 (ft_shl 1 n1) = 0 → (∃ R5 : Option ftV → ftH → Prop, ft_C k_Co_smallestHop [.inl n4] h R5 ∧ ∀ (z7 : Int) (h1 : ftH), ft_in z7 → R5 (some (.inl z7)) h1 → ((0 ≤ x2 ∧ x2 < 360) ∧ (∀ h2 : ftH, h2 = ft_hs h1 132 x2.toNat z7 → ((0 ≤ x2 ∧ x2 < 360) ∧ ((0 ≤ x2 ∧ x2 < 360) ∧ (∀ h3 : ftH, h3 = ft_hs h2 131 x2.toNat (h2 132 x2.toNat) → ft_V k_Co_handDown 4 [some (.inr (.inr 122)), some (.inl (ft_add x1 1)), some (.inl (ft_add x2 1)), none, none] [] h3 R))))))) ∧ (¬ (ft_and n4 (ft_shl 1 n1) = 0) → ((0 ≤ x2 ∧ x2 < 360) ∧ (∀ h4 : ftH, h4 = ft_hs h 132 x2.toNat ((-1)) → ((0 ≤ x2 ∧ x2 < 360) ∧ (∀ h5 : ftH, h5 = ft_hs h4 131 x2.toNat n1 → ft_V k_Co_handDown 4 [some (.inr (.inr 122)), some (.inl x1), some (.inl (ft_add x2 1)), none, none] [] h5 R)))))))))))) ∧ (¬ (0 ≤ h 126 x2.toNat) → ((0 ≤ x2 ∧ x2 < 360) ∧ (∀ n10 : Int, n10 = (if h 128 x2.toNat = 0 then ft_shl 1 (h 127 x2.toNat) else if h 129 x2.toNat = 0 then h 130 x2.toNat else h 129 x2.toNat) → ((ft_and n10 (ft_shl 1 0) = 0 → (∃ R11 : Option ftV → ftH → Prop, ft_C k_Co_smallestHop [.inl n10] h R11 ∧ ∀ (z13 : Int) (h6 : ftH), ft_in z13 → R11 (some (.inl z13)) h6 → ((0 ≤ x2 ∧ x2 < 360) ∧ (∀ h7 : ftH, h7 = ft_hs h6 132 x2.toNat z13 → ((0 ≤ x2 ∧ x2 < 360) ∧ ((0 ≤ x2 ∧ x2 < 360) ∧ (∀ h8 : ftH, h8 = ft_hs h7 131 x2.toNat (h7 132 x2.toNat) → ft_V k_Co_handDown 4 [some (.inr (.inr 122)), some (.inl (ft_add x1 1)), some (.inl (ft_add x2 1)), none, none] [] h8 R))))))) ∧ (¬ (ft_and n10 (ft_shl 1 0) = 0) → ((0 ≤ x2 ∧ x2 < 360) ∧ (∀ h9 : ftH, h9 = ft_hs h 132 x2.toNat ((-1)) → ((0 ≤ x2 ∧ x2 < 360) ∧ (∀ h10 : ftH, h10 = ft_hs h9 131 x2.toNat 0 → ft_V k_Co_handDown 4 [some (.inr (.inr 122)), some (.inl x1), some (.inl (ft_add x2 1)), none, none] [] h10 R)))))))))))))) : ft_V k_Co_handDown 4 [some (.inr (.inr 122)), some (.inl x1), some (.inl x2), none, none] [] h R := by
  refine fv_iload_n (ft_d o_Co_handDown 4 rfl) rfl rfl ?_
  refine fv_aload_n (ft_d o_Co_handDown 5 rfl) rfl rfl ?_
  refine fv_getI (ft_d o_Co_handDown 6 rfl) rfl fl_Co_44 sh_122 rfl ?_
  refine fv_icmp_ge (tgt := 102) (ft_d o_Co_handDown 7 rfl) rfl rfl (fun c => ?_) (fun c => ?_)
  · have w := w.1 c
    refine fv_iload_n (ft_d o_Co_handDown 61 rfl) rfl rfl ?_
    exact fv_ireturn (ft_d o_Co_handDown 62 rfl) rfl w
  · have w := w.2 c
    refine fv_aload_n (ft_d o_Co_handDown 8 rfl) rfl rfl ?_
    refine fv_getR (b := 126) (ft_d o_Co_handDown 9 rfl) rfl fl_Co_22 sh_122 rfl ly_122_3 ?_
    refine fv_iload_n (ft_d o_Co_handDown 10 rfl) rfl rfl ?_
    refine fv_iald (ft_d o_Co_handDown 11 rfl) rfl sh_126 w.1 ?_
    have w := w.2
    refine fv_if_ge (tgt := 25) (ft_d o_Co_handDown 12 rfl) rfl rfl (fun c => ?_) (fun c => ?_)
    · have w := w.1 c
      refine fv_aload_n (ft_d o_Co_handDown 15 rfl) rfl rfl ?_
      refine fv_getR (b := 131) (ft_d o_Co_handDown 16 rfl) rfl fl_Co_38 sh_122 rfl ly_122_8 ?_
      refine fv_aload_n (ft_d o_Co_handDown 17 rfl) rfl rfl ?_
      refine fv_getR (b := 126) (ft_d o_Co_handDown 18 rfl) rfl fl_Co_22 sh_122 rfl ly_122_3 ?_
      refine fv_iload_n (ft_d o_Co_handDown 19 rfl) rfl rfl ?_
      refine fv_iald (ft_d o_Co_handDown 20 rfl) rfl sh_126 w.1 ?_
      have w := w.2
      refine fv_iald (ft_d o_Co_handDown 21 rfl) rfl sh_131 w.1 ?_
      have w := w.2
      generalize en1 : h 131 (h 126 x2.toNat).toNat = n1
      have w := w n1 en1.symm
      refine fv_istore_n (L' := [some (.inr (.inr 122)), some (.inl x1), some (.inl x2), some (.inl n1), none]) (ft_d o_Co_handDown 22 rfl) rfl (Nat.le_of_ble_eq_true rfl) rfl ?_
      refine fv_aload_n (ft_d o_Co_handDown 23 rfl) rfl rfl ?_
      refine fv_iload_n (ft_d o_Co_handDown 24 rfl) rfl rfl ?_
      refine fv_callif (st := []) (z := (if h 128 x2.toNat = 0 then ft_shl 1 (h 127 x2.toNat) else if h 129 x2.toNat = 0 then h 130 x2.toNat else h 129 x2.toNat)) (Or.inl rfl) rfl (ft_mm (pre := [.inl x2, .inr (.inr 122)]) rfl) (ft_rnV (K' := k_Co_setOf) (As := [.inl x2]) (ft_d o_Co_handDown 25 rfl) ml_Co_95 li_Co_setOf.1 li_Co_setOf.2 lw_Co_setOf ⟨rfl, rfl, Nat.le_of_ble_eq_true rfl, Nat.le_of_ble_eq_true rfl⟩ sh_122 rfl rfl rfl rfl (Nat.le_of_ble_eq_true rfl) (c_Co_setOf w.1)) ?_
      have w := w.2
      generalize en4 : (if h 128 x2.toNat = 0 then ft_shl 1 (h 127 x2.toNat) else if h 129 x2.toNat = 0 then h 130 x2.toNat else h 129 x2.toNat) = n4
      have w := w n4 en4.symm
      refine fv_istore (L' := [some (.inr (.inr 122)), some (.inl x1), some (.inl x2), some (.inl n1), some (.inl n4)]) (ft_d o_Co_handDown 26 rfl) rfl (Nat.le_of_ble_eq_true rfl) rfl ?_
      refine fv_iload (ft_d o_Co_handDown 27 rfl) rfl rfl ?_
      refine fv_iconst (ft_d o_Co_handDown 28 rfl) rfl rfl ?_
      refine fv_iload_n (ft_d o_Co_handDown 29 rfl) rfl rfl ?_
      refine fv_ishl (ft_d o_Co_handDown 30 rfl) rfl ?_
      refine fv_iand (ft_d o_Co_handDown 31 rfl) rfl ?_
      refine fv_if_eq (tgt := 70) (ft_d o_Co_handDown 32 rfl) rfl rfl (fun c => ?_) (fun c => ?_)
      · have w := w.1 c
        refine fv_aload_n (ft_d o_Co_handDown 44 rfl) rfl rfl ?_
        refine fv_getR (b := 132) (ft_d o_Co_handDown 45 rfl) rfl fl_Co_41 sh_122 rfl ly_122_9 ?_
        refine fv_iload_n (ft_d o_Co_handDown 46 rfl) rfl rfl ?_
        refine fv_iload (ft_d o_Co_handDown 47 rfl) rfl rfl ?_
        obtain ⟨R5, c6, w⟩ := w
        refine fv_calli (st := [.inl x2, .inr (.inr 132)]) (Or.inl rfl) rfl (ft_mm (pre := [.inl n4]) rfl) (ft_rnS (K' := k_Co_smallestHop) (As := [.inl n4]) (ft_d o_Co_handDown 48 rfl) ml_Co_99 lz_Co_smallestHop rfl lw_Co_smallestHop ⟨rfl, rfl, Nat.le_of_ble_eq_true rfl, Nat.le_of_ble_eq_true rfl⟩ rfl rfl (Nat.le_of_ble_eq_true rfl) c6) (fun z7 h1 hz hw => ?_)
        have w := w z7 h1 hz hw
        refine fv_iast (ft_d o_Co_handDown 49 rfl) rfl sh_132 w.1 ?_
        have w := w.2
        generalize eh2 : ft_hs h1 132 x2.toNat z7 = h2
        have w := w h2 eh2.symm
        refine fv_aload_n (ft_d o_Co_handDown 50 rfl) rfl rfl ?_
        refine fv_getR (b := 131) (ft_d o_Co_handDown 51 rfl) rfl fl_Co_38 sh_122 rfl ly_122_8 ?_
        refine fv_iload_n (ft_d o_Co_handDown 52 rfl) rfl rfl ?_
        refine fv_aload_n (ft_d o_Co_handDown 53 rfl) rfl rfl ?_
        refine fv_getR (b := 132) (ft_d o_Co_handDown 54 rfl) rfl fl_Co_41 sh_122 rfl ly_122_9 ?_
        refine fv_iload_n (ft_d o_Co_handDown 55 rfl) rfl rfl ?_
        refine fv_iald (ft_d o_Co_handDown 56 rfl) rfl sh_132 w.1 ?_
        have w := w.2
        refine fv_iast (ft_d o_Co_handDown 57 rfl) rfl sh_131 w.1 ?_
        have w := w.2
        generalize eh3 : ft_hs h2 131 x2.toNat (h2 132 x2.toNat) = h3
        have w := w h3 eh3.symm
        refine fv_iinc (L' := [some (.inr (.inr 122)), some (.inl (ft_add x1 1)), some (.inl x2), some (.inl n1), some (.inl n4)]) (ft_d o_Co_handDown 58 rfl) rfl rfl (Nat.le_of_ble_eq_true rfl) rfl ?_
        refine fv_iinc (L' := [some (.inr (.inr 122)), some (.inl (ft_add x1 1)), some (.inl (ft_add x2 1)), some (.inl n1), some (.inl n4)]) (ft_d o_Co_handDown 59 rfl) rfl rfl (Nat.le_of_ble_eq_true rfl) rfl ?_
        refine fv_goto (pc' := 4) (ft_d o_Co_handDown 60 rfl) rfl ?_
        refine fv_mask (M := [true, true, true, false, false]) rfl ?_
        exact w
      · have w := w.2 c
        refine fv_aload_n (ft_d o_Co_handDown 33 rfl) rfl rfl ?_
        refine fv_getR (b := 132) (ft_d o_Co_handDown 34 rfl) rfl fl_Co_41 sh_122 rfl ly_122_9 ?_
        refine fv_iload_n (ft_d o_Co_handDown 35 rfl) rfl rfl ?_
        refine fv_iconst (ft_d o_Co_handDown 36 rfl) rfl rfl ?_
        refine fv_iast (ft_d o_Co_handDown 37 rfl) rfl sh_132 w.1 ?_
        have w := w.2
        generalize eh4 : ft_hs h 132 x2.toNat ((-1)) = h4
        have w := w h4 eh4.symm
        refine fv_aload_n (ft_d o_Co_handDown 38 rfl) rfl rfl ?_
        refine fv_getR (b := 131) (ft_d o_Co_handDown 39 rfl) rfl fl_Co_38 sh_122 rfl ly_122_8 ?_
        refine fv_iload_n (ft_d o_Co_handDown 40 rfl) rfl rfl ?_
        refine fv_iload_n (ft_d o_Co_handDown 41 rfl) rfl rfl ?_
        refine fv_iast (ft_d o_Co_handDown 42 rfl) rfl sh_131 w.1 ?_
        have w := w.2
        generalize eh5 : ft_hs h4 131 x2.toNat n1 = h5
        have w := w h5 eh5.symm
        refine fv_goto (pc' := 96) (ft_d o_Co_handDown 43 rfl) rfl ?_
        refine fv_iinc (L' := [some (.inr (.inr 122)), some (.inl x1), some (.inl (ft_add x2 1)), some (.inl n1), some (.inl n4)]) (ft_d o_Co_handDown 59 rfl) rfl rfl (Nat.le_of_ble_eq_true rfl) rfl ?_
        refine fv_goto (pc' := 4) (ft_d o_Co_handDown 60 rfl) rfl ?_
        refine fv_mask (M := [true, true, true, false, false]) rfl ?_
        exact w
    · have w := w.2 c
      refine fv_iconst (ft_d o_Co_handDown 13 rfl) rfl rfl ?_
      refine fv_goto (pc' := 36) (ft_d o_Co_handDown 14 rfl) rfl ?_
      refine fv_istore_n (L' := [some (.inr (.inr 122)), some (.inl x1), some (.inl x2), some (.inl 0), none]) (ft_d o_Co_handDown 22 rfl) rfl (Nat.le_of_ble_eq_true rfl) rfl ?_
      refine fv_aload_n (ft_d o_Co_handDown 23 rfl) rfl rfl ?_
      refine fv_iload_n (ft_d o_Co_handDown 24 rfl) rfl rfl ?_
      refine fv_callif (st := []) (z := (if h 128 x2.toNat = 0 then ft_shl 1 (h 127 x2.toNat) else if h 129 x2.toNat = 0 then h 130 x2.toNat else h 129 x2.toNat)) (Or.inl rfl) rfl (ft_mm (pre := [.inl x2, .inr (.inr 122)]) rfl) (ft_rnV (K' := k_Co_setOf) (As := [.inl x2]) (ft_d o_Co_handDown 25 rfl) ml_Co_95 li_Co_setOf.1 li_Co_setOf.2 lw_Co_setOf ⟨rfl, rfl, Nat.le_of_ble_eq_true rfl, Nat.le_of_ble_eq_true rfl⟩ sh_122 rfl rfl rfl rfl (Nat.le_of_ble_eq_true rfl) (c_Co_setOf w.1)) ?_
      have w := w.2
      generalize en10 : (if h 128 x2.toNat = 0 then ft_shl 1 (h 127 x2.toNat) else if h 129 x2.toNat = 0 then h 130 x2.toNat else h 129 x2.toNat) = n10
      have w := w n10 en10.symm
      refine fv_istore (L' := [some (.inr (.inr 122)), some (.inl x1), some (.inl x2), some (.inl 0), some (.inl n10)]) (ft_d o_Co_handDown 26 rfl) rfl (Nat.le_of_ble_eq_true rfl) rfl ?_
      refine fv_iload (ft_d o_Co_handDown 27 rfl) rfl rfl ?_
      refine fv_iconst (ft_d o_Co_handDown 28 rfl) rfl rfl ?_
      refine fv_iload_n (ft_d o_Co_handDown 29 rfl) rfl rfl ?_
      refine fv_ishl (ft_d o_Co_handDown 30 rfl) rfl ?_
      refine fv_iand (ft_d o_Co_handDown 31 rfl) rfl ?_
      refine fv_if_eq (tgt := 70) (ft_d o_Co_handDown 32 rfl) rfl rfl (fun c => ?_) (fun c => ?_)
      · have w := w.1 c
        refine fv_aload_n (ft_d o_Co_handDown 44 rfl) rfl rfl ?_
        refine fv_getR (b := 132) (ft_d o_Co_handDown 45 rfl) rfl fl_Co_41 sh_122 rfl ly_122_9 ?_
        refine fv_iload_n (ft_d o_Co_handDown 46 rfl) rfl rfl ?_
        refine fv_iload (ft_d o_Co_handDown 47 rfl) rfl rfl ?_
        obtain ⟨R11, c12, w⟩ := w
        refine fv_calli (st := [.inl x2, .inr (.inr 132)]) (Or.inl rfl) rfl (ft_mm (pre := [.inl n10]) rfl) (ft_rnS (K' := k_Co_smallestHop) (As := [.inl n10]) (ft_d o_Co_handDown 48 rfl) ml_Co_99 lz_Co_smallestHop rfl lw_Co_smallestHop ⟨rfl, rfl, Nat.le_of_ble_eq_true rfl, Nat.le_of_ble_eq_true rfl⟩ rfl rfl (Nat.le_of_ble_eq_true rfl) c12) (fun z13 h6 hz hw => ?_)
        have w := w z13 h6 hz hw
        refine fv_iast (ft_d o_Co_handDown 49 rfl) rfl sh_132 w.1 ?_
        have w := w.2
        generalize eh7 : ft_hs h6 132 x2.toNat z13 = h7
        have w := w h7 eh7.symm
        refine fv_aload_n (ft_d o_Co_handDown 50 rfl) rfl rfl ?_
        refine fv_getR (b := 131) (ft_d o_Co_handDown 51 rfl) rfl fl_Co_38 sh_122 rfl ly_122_8 ?_
        refine fv_iload_n (ft_d o_Co_handDown 52 rfl) rfl rfl ?_
        refine fv_aload_n (ft_d o_Co_handDown 53 rfl) rfl rfl ?_
        refine fv_getR (b := 132) (ft_d o_Co_handDown 54 rfl) rfl fl_Co_41 sh_122 rfl ly_122_9 ?_
        refine fv_iload_n (ft_d o_Co_handDown 55 rfl) rfl rfl ?_
        refine fv_iald (ft_d o_Co_handDown 56 rfl) rfl sh_132 w.1 ?_
        have w := w.2
        refine fv_iast (ft_d o_Co_handDown 57 rfl) rfl sh_131 w.1 ?_
        have w := w.2
        generalize eh8 : ft_hs h7 131 x2.toNat (h7 132 x2.toNat) = h8
        have w := w h8 eh8.symm
        refine fv_iinc (L' := [some (.inr (.inr 122)), some (.inl (ft_add x1 1)), some (.inl x2), some (.inl 0), some (.inl n10)]) (ft_d o_Co_handDown 58 rfl) rfl rfl (Nat.le_of_ble_eq_true rfl) rfl ?_
        refine fv_iinc (L' := [some (.inr (.inr 122)), some (.inl (ft_add x1 1)), some (.inl (ft_add x2 1)), some (.inl 0), some (.inl n10)]) (ft_d o_Co_handDown 59 rfl) rfl rfl (Nat.le_of_ble_eq_true rfl) rfl ?_
        refine fv_goto (pc' := 4) (ft_d o_Co_handDown 60 rfl) rfl ?_
        refine fv_mask (M := [true, true, true, false, false]) rfl ?_
        exact w
      · have w := w.2 c
        refine fv_aload_n (ft_d o_Co_handDown 33 rfl) rfl rfl ?_
        refine fv_getR (b := 132) (ft_d o_Co_handDown 34 rfl) rfl fl_Co_41 sh_122 rfl ly_122_9 ?_
        refine fv_iload_n (ft_d o_Co_handDown 35 rfl) rfl rfl ?_
        refine fv_iconst (ft_d o_Co_handDown 36 rfl) rfl rfl ?_
        refine fv_iast (ft_d o_Co_handDown 37 rfl) rfl sh_132 w.1 ?_
        have w := w.2
        generalize eh9 : ft_hs h 132 x2.toNat ((-1)) = h9
        have w := w h9 eh9.symm
        refine fv_aload_n (ft_d o_Co_handDown 38 rfl) rfl rfl ?_
        refine fv_getR (b := 131) (ft_d o_Co_handDown 39 rfl) rfl fl_Co_38 sh_122 rfl ly_122_8 ?_
        refine fv_iload_n (ft_d o_Co_handDown 40 rfl) rfl rfl ?_
        refine fv_iload_n (ft_d o_Co_handDown 41 rfl) rfl rfl ?_
        refine fv_iast (ft_d o_Co_handDown 42 rfl) rfl sh_131 w.1 ?_
        have w := w.2
        generalize eh10 : ft_hs h9 131 x2.toNat 0 = h10
        have w := w h10 eh10.symm
        refine fv_goto (pc' := 96) (ft_d o_Co_handDown 43 rfl) rfl ?_
        refine fv_iinc (L' := [some (.inr (.inr 122)), some (.inl x1), some (.inl (ft_add x2 1)), some (.inl 0), some (.inl n10)]) (ft_d o_Co_handDown 59 rfl) rfl rfl (Nat.le_of_ble_eq_true rfl) rfl ?_
        refine fv_goto (pc' := 4) (ft_d o_Co_handDown 60 rfl) rfl ?_
        refine fv_mask (M := [true, true, true, false, false]) rfl ?_
        exact w
set_option maxRecDepth 20000 in
theorem b_Co_smallestHop_0 {x0 : Int} {h : ftH} {R : Option ftV → ftH → Prop} 
    (w : ft_V k_Co_smallestHop 2 [some (.inl x0), some (.inl 0)] [] h R) : ft_V k_Co_smallestHop 0 [some (.inl x0), none] [] h R := by
  refine fv_iconst (ft_d o_Co_smallestHop 0 rfl) rfl rfl ?_
  refine fv_istore_n (L' := [some (.inl x0), some (.inl 0)]) (ft_d o_Co_smallestHop 1 rfl) rfl (Nat.le_of_ble_eq_true rfl) rfl ?_
  exact w
set_option maxRecDepth 20000 in
theorem b_Co_smallestHop_2 {x0 : Int} {x1 : Int} {h : ftH} {R : Option ftV → ftH → Prop} 
    (w : ((15 ≤ x1 → R (some (.inl x1)) h) ∧ (¬ (15 ≤ x1) → ((¬ (ft_and x0 (ft_shl 1 x1) = 0) → R (some (.inl x1)) h) ∧ (ft_and x0 (ft_shl 1 x1) = 0 → ft_V k_Co_smallestHop 2 [some (.inl x0), some (.inl (ft_add x1 1))] [] h R))))) : ft_V k_Co_smallestHop 2 [some (.inl x0), some (.inl x1)] [] h R := by
  refine fv_iload_n (ft_d o_Co_smallestHop 2 rfl) rfl rfl ?_
  refine fv_bipush (ft_d o_Co_smallestHop 3 rfl) rfl rfl ?_
  refine fv_icmp_ge (tgt := 22) (ft_d o_Co_smallestHop 4 rfl) rfl rfl (fun c => ?_) (fun c => ?_)
  · have w := w.1 c
    refine fv_iload_n (ft_d o_Co_smallestHop 13 rfl) rfl rfl ?_
    exact fv_ireturn (ft_d o_Co_smallestHop 14 rfl) rfl w
  · have w := w.2 c
    refine fv_iload_n (ft_d o_Co_smallestHop 5 rfl) rfl rfl ?_
    refine fv_iconst (ft_d o_Co_smallestHop 6 rfl) rfl rfl ?_
    refine fv_iload_n (ft_d o_Co_smallestHop 7 rfl) rfl rfl ?_
    refine fv_ishl (ft_d o_Co_smallestHop 8 rfl) rfl ?_
    refine fv_iand (ft_d o_Co_smallestHop 9 rfl) rfl ?_
    refine fv_if_ne (tgt := 22) (ft_d o_Co_smallestHop 10 rfl) rfl rfl (fun c => ?_) (fun c => ?_)
    · have w := w.1 c
      refine fv_iload_n (ft_d o_Co_smallestHop 13 rfl) rfl rfl ?_
      exact fv_ireturn (ft_d o_Co_smallestHop 14 rfl) rfl w
    · have w := w.2 c
      refine fv_iinc (L' := [some (.inl x0), some (.inl (ft_add x1 1))]) (ft_d o_Co_smallestHop 11 rfl) rfl rfl (Nat.le_of_ble_eq_true rfl) rfl ?_
      refine fv_goto (pc' := 2) (ft_d o_Co_smallestHop 12 rfl) rfl ?_
      exact w
