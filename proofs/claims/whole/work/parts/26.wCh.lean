/-! printed by wip/whole/gen/gen10.py: what must hold at each cut point -/
set_option maxRecDepth 20000 in
theorem b_Ch_countHits_0 {r1 : Nat} {r2 : Nat} {h : ftH} {R : Option ftV → ftH → Prop} (hr1 : ft_sh r1 = some (.inl 4)) (hr2 : ft_sh r2 = some (.inl 9))
    (w : ft_V k_Ch_countHits 2 [some (.inr (.inr 143)), some (.inr (.inr r1)), some (.inr (.inr r2)), some (.inl 0), none] [] h R) : ft_V k_Ch_countHits 0 [some (.inr (.inr 143)), some (.inr (.inr r1)), some (.inr (.inr r2)), none, none] [] h R := by
  refine fv_iconst (ft_d o_Ch_countHits 0 rfl) rfl rfl ?_
  refine fv_istore_n (L' := [some (.inr (.inr 143)), some (.inr (.inr r1)), some (.inr (.inr r2)), some (.inl 0), none]) (ft_d o_Ch_countHits 1 rfl) rfl (Nat.le_of_ble_eq_true rfl) rfl ?_
  exact w
set_option maxRecDepth 20000 in
theorem b_Ch_countHits_2 {r1 : Nat} {r2 : Nat} {x3 : Int} {h : ftH} {R : Option ftV → ftH → Prop} (hr1 : ft_sh r1 = some (.inl 4)) (hr2 : ft_sh r2 = some (.inl 9))
    (w : ((h r1 2 ≤ x3 → (∀ h1 : ftH, h1 = ft_hs h 143 2 0 → ft_V k_Ch_countHits 30 [some (.inr (.inr 143)), some (.inr (.inr r1)), some (.inr (.inr r2)), some (.inl 0), none] [] h1 R)) ∧ (¬ (h r1 2 ≤ x3) → ((0 ≤ x3 ∧ x3 < 60) ∧ (∀ h2 : ftH, h2 = ft_hs h 144 x3.toNat 0 → ft_V k_Ch_countHits 2 [some (.inr (.inr 143)), some (.inr (.inr r1)), some (.inr (.inr r2)), some (.inl (ft_add x3 1)), none] [] h2 R))))) : ft_V k_Ch_countHits 2 [some (.inr (.inr 143)), some (.inr (.inr r1)), some (.inr (.inr r2)), some (.inl x3), none] [] h R := by
  refine fv_iload_n (ft_d o_Ch_countHits 2 rfl) rfl rfl ?_
  refine fv_aload_n (ft_d o_Ch_countHits 3 rfl) rfl rfl ?_
  refine fv_getI (ft_d o_Ch_countHits 4 rfl) rfl fl_Ch_44 hr1 rfl ?_
  refine fv_icmp_ge (tgt := 23) (ft_d o_Ch_countHits 5 rfl) rfl rfl (fun c => ?_) (fun c => ?_)
  · have w := w.1 c
    refine fv_aload_n (ft_d o_Ch_countHits 13 rfl) rfl rfl ?_
    refine fv_iconst (ft_d o_Ch_countHits 14 rfl) rfl rfl ?_
    refine fv_putI (ft_d o_Ch_countHits 15 rfl) rfl fl_Ch_48 rfl rfl sh_143 rfl ?_
    generalize eh1 : ft_hs h 143 2 0 = h1
    have w := w h1 eh1.symm
    refine fv_iconst (ft_d o_Ch_countHits 16 rfl) rfl rfl ?_
    refine fv_istore_n (L' := [some (.inr (.inr 143)), some (.inr (.inr r1)), some (.inr (.inr r2)), some (.inl 0), none]) (ft_d o_Ch_countHits 17 rfl) rfl (Nat.le_of_ble_eq_true rfl) rfl ?_
    exact w
  · have w := w.2 c
    refine fv_aload_n (ft_d o_Ch_countHits 6 rfl) rfl rfl ?_
    refine fv_getR (b := 144) (ft_d o_Ch_countHits 7 rfl) rfl fl_Ch_9 sh_143 rfl ly_143_0 ?_
    refine fv_iload_n (ft_d o_Ch_countHits 8 rfl) rfl rfl ?_
    refine fv_iconst (ft_d o_Ch_countHits 9 rfl) rfl rfl ?_
    refine fv_iast (ft_d o_Ch_countHits 10 rfl) rfl sh_144 w.1 ?_
    have w := w.2
    generalize eh2 : ft_hs h 144 x3.toNat 0 = h2
    have w := w h2 eh2.symm
    refine fv_iinc (L' := [some (.inr (.inr 143)), some (.inr (.inr r1)), some (.inr (.inr r2)), some (.inl (ft_add x3 1)), none]) (ft_d o_Ch_countHits 11 rfl) rfl rfl (Nat.le_of_ble_eq_true rfl) rfl ?_
    refine fv_goto (pc' := 2) (ft_d o_Ch_countHits 12 rfl) rfl ?_
    exact w
set_option maxRecDepth 20000 in
theorem b_Ch_countHits_30 {r1 : Nat} {r2 : Nat} {x3 : Int} {h : ftH} {R : Option ftV → ftH → Prop} (hr1 : ft_sh r1 = some (.inl 4)) (hr2 : ft_sh r2 = some (.inl 9))
    (w : ((h r2 2 ≤ x3 → R none h) ∧ (¬ (h r2 2 ≤ x3) → ((0 ≤ x3 ∧ x3 < 40) ∧ (∃ R1 : Option ftV → ftH → Prop, ft_C k_PS_longest [.inr (.inr r1), .inr (.inl (h (r2 + 1) x3.toNat))] h R1 ∧ ∀ (z3 : Int) (h1 : ftH), ft_in z3 → R1 (some (.inl z3)) h1 → ((z3 < 0 → ft_V k_Ch_countHits 30 [some (.inr (.inr 143)), some (.inr (.inr r1)), some (.inr (.inr r2)), some (.inl (ft_add x3 1)), none] [] h1 R) ∧ (¬ (z3 < 0) → ((0 ≤ z3 ∧ z3 < 60) ∧ ((0 ≤ x3 ∧ x3 < 40) ∧ ((0 ≤ z3 ∧ z3 < 60) ∧ (∀ h2 : ftH, h2 = ft_hs h1 144 z3.toNat (ft_add (h1 144 z3.toNat) (h1 (r2 + 2) x3.toNat)) → ((0 ≤ x3 ∧ x3 < 40) ∧ (∀ h3 : ftH, h3 = ft_hs h2 143 2 (ft_add (h2 143 2) (h2 (r2 + 2) x3.toNat)) → ft_V k_Ch_countHits 30 [some (.inr (.inr 143)), some (.inr (.inr r1)), some (.inr (.inr r2)), some (.inl (ft_add x3 1)), none] [] h3 R))))))))))))) : ft_V k_Ch_countHits 30 [some (.inr (.inr 143)), some (.inr (.inr r1)), some (.inr (.inr r2)), some (.inl x3), none] [] h R := by
  refine fv_iload_n (ft_d o_Ch_countHits 18 rfl) rfl rfl ?_
  refine fv_aload_n (ft_d o_Ch_countHits 19 rfl) rfl rfl ?_
  refine fv_getI (ft_d o_Ch_countHits 20 rfl) rfl fl_Ch_51 hr2 rfl ?_
  refine fv_icmp_ge (tgt := 92) (ft_d o_Ch_countHits 21 rfl) rfl rfl (fun c => ?_) (fun c => ?_)
  · have w := w.1 c
    exact fv_return (ft_d o_Ch_countHits 53 rfl) rfl w
  · have w := w.2 c
    refine fv_aload_n (ft_d o_Ch_countHits 22 rfl) rfl rfl ?_
    refine fv_aload_n (ft_d o_Ch_countHits 23 rfl) rfl rfl ?_
    refine fv_getR (b := r2 + 1) (ft_d o_Ch_countHits 24 rfl) rfl fl_Ch_54 hr2 rfl (lyc_9_0 hr2) ?_
    refine fv_iload_n (ft_d o_Ch_countHits 25 rfl) rfl rfl ?_
    refine fv_lald (ft_d o_Ch_countHits 26 rfl) rfl (shc_9_0 hr2) w.1 ?_
    have w := w.2
    obtain ⟨R1, c2, w⟩ := w
    refine fv_calli (st := []) (Or.inl rfl) rfl (ft_mm (pre := [.inr (.inl (h (r2 + 1) x3.toNat)), .inr (.inr r1)]) rfl) (ft_rnV (K' := k_PS_longest) (As := [.inr (.inl (h (r2 + 1) x3.toNat))]) (ft_d o_Ch_countHits 27 rfl) ml_Ch_57 li_PS_longest.1 li_PS_longest.2 lw_PS_longest ⟨rfl, rfl, Nat.le_of_ble_eq_true rfl, Nat.le_of_ble_eq_true rfl⟩ hr1 rfl rfl rfl rfl (Nat.le_of_ble_eq_true rfl) c2) (fun z3 h1 hz hw => ?_)
    have w := w z3 h1 hz hw
    refine fv_istore (L' := [some (.inr (.inr 143)), some (.inr (.inr r1)), some (.inr (.inr r2)), some (.inl x3), some (.inl z3)]) (ft_d o_Ch_countHits 28 rfl) rfl (Nat.le_of_ble_eq_true rfl) rfl ?_
    refine fv_iload (ft_d o_Ch_countHits 29 rfl) rfl rfl ?_
    refine fv_if_lt (tgt := 86) (ft_d o_Ch_countHits 30 rfl) rfl rfl (fun c => ?_) (fun c => ?_)
    · have w := w.1 c
      refine fv_iinc (L' := [some (.inr (.inr 143)), some (.inr (.inr r1)), some (.inr (.inr r2)), some (.inl (ft_add x3 1)), some (.inl z3)]) (ft_d o_Ch_countHits 51 rfl) rfl rfl (Nat.le_of_ble_eq_true rfl) rfl ?_
      refine fv_goto (pc' := 30) (ft_d o_Ch_countHits 52 rfl) rfl ?_
      refine fv_mask (M := [true, true, true, true, false]) rfl ?_
      exact w
    · have w := w.2 c
      refine fv_aload_n (ft_d o_Ch_countHits 31 rfl) rfl rfl ?_
      refine fv_getR (b := 144) (ft_d o_Ch_countHits 32 rfl) rfl fl_Ch_9 sh_143 rfl ly_143_0 ?_
      refine fv_iload (ft_d o_Ch_countHits 33 rfl) rfl rfl ?_
      refine fv_dup2 (ft_d o_Ch_countHits 34 rfl) rfl rfl rfl ?_
      refine fv_iald (ft_d o_Ch_countHits 35 rfl) rfl sh_144 w.1 ?_
      have w := w.2
      refine fv_aload_n (ft_d o_Ch_countHits 36 rfl) rfl rfl ?_
      refine fv_getR (b := r2 + 2) (ft_d o_Ch_countHits 37 rfl) rfl fl_Ch_61 hr2 rfl (lyc_9_1 hr2) ?_
      refine fv_iload_n (ft_d o_Ch_countHits 38 rfl) rfl rfl ?_
      refine fv_iald (ft_d o_Ch_countHits 39 rfl) rfl (shc_9_1 hr2) w.1 ?_
      have w := w.2
      refine fv_iadd (ft_d o_Ch_countHits 40 rfl) rfl ?_
      refine fv_iast (ft_d o_Ch_countHits 41 rfl) rfl sh_144 w.1 ?_
      have w := w.2
      generalize eh2 : ft_hs h1 144 z3.toNat (ft_add (h1 144 z3.toNat) (h1 (r2 + 2) x3.toNat)) = h2
      have w := w h2 eh2.symm
      refine fv_aload_n (ft_d o_Ch_countHits 42 rfl) rfl rfl ?_
      refine fv_dup (ft_d o_Ch_countHits 43 rfl) rfl rfl ?_
      refine fv_getI (ft_d o_Ch_countHits 44 rfl) rfl fl_Ch_48 sh_143 rfl ?_
      refine fv_aload_n (ft_d o_Ch_countHits 45 rfl) rfl rfl ?_
      refine fv_getR (b := r2 + 2) (ft_d o_Ch_countHits 46 rfl) rfl fl_Ch_61 hr2 rfl (lyc_9_1 hr2) ?_
      refine fv_iload_n (ft_d o_Ch_countHits 47 rfl) rfl rfl ?_
      refine fv_iald (ft_d o_Ch_countHits 48 rfl) rfl (shc_9_1 hr2) w.1 ?_
      have w := w.2
      refine fv_iadd (ft_d o_Ch_countHits 49 rfl) rfl ?_
      refine fv_putI (ft_d o_Ch_countHits 50 rfl) rfl fl_Ch_48 rfl rfl sh_143 rfl ?_
      generalize eh3 : ft_hs h2 143 2 (ft_add (h2 143 2) (h2 (r2 + 2) x3.toNat)) = h3
      have w := w h3 eh3.symm
      refine fv_iinc (L' := [some (.inr (.inr 143)), some (.inr (.inr r1)), some (.inr (.inr r2)), some (.inl (ft_add x3 1)), some (.inl z3)]) (ft_d o_Ch_countHits 51 rfl) rfl rfl (Nat.le_of_ble_eq_true rfl) rfl ?_
      refine fv_goto (pc' := 30) (ft_d o_Ch_countHits 52 rfl) rfl ?_
      refine fv_mask (M := [true, true, true, true, false]) rfl ?_
      exact w
set_option maxRecDepth 20000 in
theorem b_Ch_weigh_0 {r1 : Nat} {x2 : Int} {h : ftH} {R : Option ftV → ftH → Prop} (hr1 : ft_sh r1 = some (.inl 2))
    (w : ft_V k_Ch_weigh 2 [some (.inr (.inr 143)), some (.inr (.inr r1)), some (.inl x2), some (.inl 0), none, none, none] [] h R) : ft_V k_Ch_weigh 0 [some (.inr (.inr 143)), some (.inr (.inr r1)), some (.inl x2), none, none, none, none] [] h R := by
  refine fv_iconst (ft_d o_Ch_weigh 0 rfl) rfl rfl ?_
  refine fv_istore_n (L' := [some (.inr (.inr 143)), some (.inr (.inr r1)), some (.inl x2), some (.inl 0), none, none, none]) (ft_d o_Ch_weigh 1 rfl) rfl (Nat.le_of_ble_eq_true rfl) rfl ?_
  exact w
set_option maxRecDepth 20000 in
theorem b_Ch_weigh_2 {r1 : Nat} {x2 : Int} {x3 : Int} {h : ftH} {R : Option ftV → ftH → Prop} (hr1 : ft_sh r1 = some (.inl 2))
    (w : ((34 ≤ x3 → (∀ n1 : Int, n1 = ft_sub x2 1 → ft_V k_Ch_weigh 23 [some (.inr (.inr 143)), some (.inr (.inr r1)), none, some (.inl n1), none, none, none] [] h R)) ∧ (¬ (34 ≤ x3) → (∃ R2 : Option ftV → ftH → Prop, ft_C k_Ch_emptyRows [.inr (.inr 143), .inl x3] h R2 ∧ ∀ h1 : ftH, R2 none h1 → ft_V k_Ch_weigh 2 [some (.inr (.inr 143)), some (.inr (.inr r1)), some (.inl x2), some (.inl (ft_add x3 1)), none, none, none] [] h1 R)))) : ft_V k_Ch_weigh 2 [some (.inr (.inr 143)), some (.inr (.inr r1)), some (.inl x2), some (.inl x3), none, none, none] [] h R := by
  refine fv_iload_n (ft_d o_Ch_weigh 2 rfl) rfl rfl ?_
  refine fv_bipush (ft_d o_Ch_weigh 3 rfl) rfl rfl ?_
  refine fv_icmp_ge (tgt := 19) (ft_d o_Ch_weigh 4 rfl) rfl rfl (fun c => ?_) (fun c => ?_)
  · have w := w.1 c
    refine fv_iload_n (ft_d o_Ch_weigh 10 rfl) rfl rfl ?_
    refine fv_iconst (ft_d o_Ch_weigh 11 rfl) rfl rfl ?_
    refine fv_isub (ft_d o_Ch_weigh 12 rfl) rfl ?_
    generalize en1 : ft_sub x2 1 = n1
    have w := w n1 en1.symm
    refine fv_istore_n (L' := [some (.inr (.inr 143)), some (.inr (.inr r1)), some (.inl x2), some (.inl n1), none, none, none]) (ft_d o_Ch_weigh 13 rfl) rfl (Nat.le_of_ble_eq_true rfl) rfl ?_
    refine fv_mask (M := [true, true, false, true, false, false, false]) rfl ?_
    exact w
  · have w := w.2 c
    refine fv_aload_n (ft_d o_Ch_weigh 5 rfl) rfl rfl ?_
    refine fv_iload_n (ft_d o_Ch_weigh 6 rfl) rfl rfl ?_
    obtain ⟨R2, c3, w⟩ := w
    refine fv_callv (st := []) rfl rfl (ft_mm (pre := [.inl x3, .inr (.inr 143)]) rfl) (ft_rnV (K' := k_Ch_emptyRows) (As := [.inl x3]) (ft_d o_Ch_weigh 7 rfl) ml_Ch_64 li_Ch_emptyRows.1 li_Ch_emptyRows.2 lw_Ch_emptyRows ⟨rfl, rfl, Nat.le_of_ble_eq_true rfl, Nat.le_of_ble_eq_true rfl⟩ sh_143 rfl rfl rfl rfl (Nat.le_of_ble_eq_true rfl) c3) (fun h1 hw => ?_)
    have w := w h1 hw
    refine fv_iinc (L' := [some (.inr (.inr 143)), some (.inr (.inr r1)), some (.inl x2), some (.inl (ft_add x3 1)), none, none, none]) (ft_d o_Ch_weigh 8 rfl) rfl rfl (Nat.le_of_ble_eq_true rfl) rfl ?_
    refine fv_goto (pc' := 2) (ft_d o_Ch_weigh 9 rfl) rfl ?_
    exact w
set_option maxRecDepth 20000 in
theorem b_Ch_weigh_23 {r1 : Nat} {x3 : Int} {h : ftH} {R : Option ftV → ftH → Prop} (hr1 : ft_sh r1 = some (.inl 2))
    (w : ((x3 < 0 → R none h) ∧ (¬ (x3 < 0) → ((0 ≤ x3 ∧ x3 < (ft_ln (r1 + 3))) ∧ (∀ n1 : Int, n1 = min (h (r1 + 3) x3.toNat) 32 → ((0 ≤ ft_add n1 1 ∧ ft_add n1 1 < 34) ∧ (∀ n2 : Int, n2 = min (ft_add (h 286 (ft_add n1 1).toNat) 1) 60 → ft_V k_Ch_weigh 61 [some (.inr (.inr 143)), some (.inr (.inr r1)), none, some (.inl x3), some (.inl n1), some (.inl n2), some (.inl 0)] [] h R))))))) : ft_V k_Ch_weigh 23 [some (.inr (.inr 143)), some (.inr (.inr r1)), none, some (.inl x3), none, none, none] [] h R := by
  refine fv_iload_n (ft_d o_Ch_weigh 14 rfl) rfl rfl ?_
  refine fv_if_lt (tgt := 130) (ft_d o_Ch_weigh 15 rfl) rfl rfl (fun c => ?_) (fun c => ?_)
  · have w := w.1 c
    exact fv_return (ft_d o_Ch_weigh 72 rfl) rfl w
  · have w := w.2 c
    refine fv_aload_n (ft_d o_Ch_weigh 16 rfl) rfl rfl ?_
    refine fv_getR (b := r1 + 3) (ft_d o_Ch_weigh 17 rfl) rfl fl_Ch_67 hr1 rfl (lyc_2_1 hr1) ?_
    refine fv_iload_n (ft_d o_Ch_weigh 18 rfl) rfl rfl ?_
    refine fv_iald (ft_d o_Ch_weigh 19 rfl) rfl (shc_2_1 hr1) w.1 ?_
    have w := w.2
    refine fv_bipush (ft_d o_Ch_weigh 20 rfl) rfl rfl ?_
    refine fv_min (ft_d o_Ch_weigh 21 rfl) rfl ml_Ch_72 (Nat.le_of_ble_eq_true rfl) (Nat.le_of_ble_eq_true rfl) (Nat.le_of_ble_eq_true rfl) ?_
    generalize en1 : min (h (r1 + 3) x3.toNat) 32 = n1
    have w := w n1 en1.symm
    refine fv_istore (L' := [some (.inr (.inr 143)), some (.inr (.inr r1)), none, some (.inl x3), some (.inl n1), none, none]) (ft_d o_Ch_weigh 22 rfl) rfl (Nat.le_of_ble_eq_true rfl) rfl ?_
    refine fv_aload_n (ft_d o_Ch_weigh 23 rfl) rfl rfl ?_
    refine fv_getR (b := 286) (ft_d o_Ch_weigh 24 rfl) rfl fl_Ch_34 sh_143 rfl ly_143_6 ?_
    refine fv_iload (ft_d o_Ch_weigh 25 rfl) rfl rfl ?_
    refine fv_iconst (ft_d o_Ch_weigh 26 rfl) rfl rfl ?_
    refine fv_iadd (ft_d o_Ch_weigh 27 rfl) rfl ?_
    refine fv_iald (ft_d o_Ch_weigh 28 rfl) rfl sh_286 w.1 ?_
    have w := w.2
    refine fv_iconst (ft_d o_Ch_weigh 29 rfl) rfl rfl ?_
    refine fv_iadd (ft_d o_Ch_weigh 30 rfl) rfl ?_
    refine fv_bipush (ft_d o_Ch_weigh 31 rfl) rfl rfl ?_
    refine fv_min (ft_d o_Ch_weigh 32 rfl) rfl ml_Ch_72 (Nat.le_of_ble_eq_true rfl) (Nat.le_of_ble_eq_true rfl) (Nat.le_of_ble_eq_true rfl) ?_
    generalize en2 : min (ft_add (h 286 (ft_add n1 1).toNat) 1) 60 = n2
    have w := w n2 en2.symm
    refine fv_istore (L' := [some (.inr (.inr 143)), some (.inr (.inr r1)), none, some (.inl x3), some (.inl n1), some (.inl n2), none]) (ft_d o_Ch_weigh 33 rfl) rfl (Nat.le_of_ble_eq_true rfl) rfl ?_
    refine fv_iconst (ft_d o_Ch_weigh 34 rfl) rfl rfl ?_
    refine fv_istore (L' := [some (.inr (.inr 143)), some (.inr (.inr r1)), none, some (.inl x3), some (.inl n1), some (.inl n2), some (.inl 0)]) (ft_d o_Ch_weigh 35 rfl) rfl (Nat.le_of_ble_eq_true rfl) rfl ?_
    exact w
set_option maxRecDepth 20000 in
theorem b_Ch_weigh_61 {r1 : Nat} {x3 : Int} {x4 : Int} {x5 : Int} {x6 : Int} {h : ftH} {R : Option ftV → ftH → Prop} (hr1 : ft_sh r1 = some (.inl 2))
    (w : ((1 < x6 → ((0 ≤ x4 ∧ x4 < 34) ∧ ((0 ≤ x4 ∧ x4 < 34) ∧ (∀ h1 : ftH, h1 = ft_hs h 286 x4.toNat (min (ft_add (h 286 x4.toNat) x5) 60) → (∃ R1 : Option ftV → ftH → Prop, ft_C k_Ch_emptyRows [.inr (.inr 143), .inl (ft_add x4 1)] h1 R1 ∧ ∀ h2 : ftH, R1 none h2 → ft_V k_Ch_weigh 23 [some (.inr (.inr 143)), some (.inr (.inr r1)), none, some (.inl (ft_add x3 (-1))), none, none, none] [] h2 R))))) ∧ (¬ (1 < x6) → (∃ R3 : Option ftV → ftH → Prop, ft_C k_Ch_weighOne [.inr (.inr 143), .inl x3, .inl (ft_add x4 1), .inl x6] h R3 ∧ ∀ h3 : ftH, R3 none h3 → (∃ R5 : Option ftV → ftH → Prop, ft_C k_Ch_join [.inr (.inr 143), .inl x4, .inl x6, .inl x5] h3 R5 ∧ ∀ h4 : ftH, R5 none h4 → ft_V k_Ch_weigh 61 [some (.inr (.inr 143)), some (.inr (.inr r1)), none, some (.inl x3), some (.inl x4), some (.inl x5), some (.inl (ft_add x6 1))] [] h4 R))))) : ft_V k_Ch_weigh 61 [some (.inr (.inr 143)), some (.inr (.inr r1)), none, some (.inl x3), some (.inl x4), some (.inl x5), some (.inl x6)] [] h R := by
  refine fv_iload (ft_d o_Ch_weigh 36 rfl) rfl rfl ?_
  refine fv_iconst (ft_d o_Ch_weigh 37 rfl) rfl rfl ?_
  refine fv_icmp_gt (tgt := 94) (ft_d o_Ch_weigh 38 rfl) rfl rfl (fun c => ?_) (fun c => ?_)
  · have w := w.1 c
    refine fv_aload_n (ft_d o_Ch_weigh 53 rfl) rfl rfl ?_
    refine fv_getR (b := 286) (ft_d o_Ch_weigh 54 rfl) rfl fl_Ch_34 sh_143 rfl ly_143_6 ?_
    refine fv_iload (ft_d o_Ch_weigh 55 rfl) rfl rfl ?_
    refine fv_aload_n (ft_d o_Ch_weigh 56 rfl) rfl rfl ?_
    refine fv_getR (b := 286) (ft_d o_Ch_weigh 57 rfl) rfl fl_Ch_34 sh_143 rfl ly_143_6 ?_
    refine fv_iload (ft_d o_Ch_weigh 58 rfl) rfl rfl ?_
    refine fv_iald (ft_d o_Ch_weigh 59 rfl) rfl sh_286 w.1 ?_
    have w := w.2
    refine fv_iload (ft_d o_Ch_weigh 60 rfl) rfl rfl ?_
    refine fv_iadd (ft_d o_Ch_weigh 61 rfl) rfl ?_
    refine fv_bipush (ft_d o_Ch_weigh 62 rfl) rfl rfl ?_
    refine fv_min (ft_d o_Ch_weigh 63 rfl) rfl ml_Ch_72 (Nat.le_of_ble_eq_true rfl) (Nat.le_of_ble_eq_true rfl) (Nat.le_of_ble_eq_true rfl) ?_
    refine fv_iast (ft_d o_Ch_weigh 64 rfl) rfl sh_286 w.1 ?_
    have w := w.2
    generalize eh1 : ft_hs h 286 x4.toNat (min (ft_add (h 286 x4.toNat) x5) 60) = h1
    have w := w h1 eh1.symm
    refine fv_aload_n (ft_d o_Ch_weigh 65 rfl) rfl rfl ?_
    refine fv_iload (ft_d o_Ch_weigh 66 rfl) rfl rfl ?_
    refine fv_iconst (ft_d o_Ch_weigh 67 rfl) rfl rfl ?_
    refine fv_iadd (ft_d o_Ch_weigh 68 rfl) rfl ?_
    obtain ⟨R1, c2, w⟩ := w
    refine fv_callv (st := []) rfl rfl (ft_mm (pre := [.inl (ft_add x4 1), .inr (.inr 143)]) rfl) (ft_rnV (K' := k_Ch_emptyRows) (As := [.inl (ft_add x4 1)]) (ft_d o_Ch_weigh 69 rfl) ml_Ch_64 li_Ch_emptyRows.1 li_Ch_emptyRows.2 lw_Ch_emptyRows ⟨rfl, rfl, Nat.le_of_ble_eq_true rfl, Nat.le_of_ble_eq_true rfl⟩ sh_143 rfl rfl rfl rfl (Nat.le_of_ble_eq_true rfl) c2) (fun h2 hw => ?_)
    have w := w h2 hw
    refine fv_iinc (L' := [some (.inr (.inr 143)), some (.inr (.inr r1)), none, some (.inl (ft_add x3 (-1))), some (.inl x4), some (.inl x5), some (.inl x6)]) (ft_d o_Ch_weigh 70 rfl) rfl rfl (Nat.le_of_ble_eq_true rfl) rfl ?_
    refine fv_goto (pc' := 23) (ft_d o_Ch_weigh 71 rfl) rfl ?_
    refine fv_mask (M := [true, true, false, true, false, false, false]) rfl ?_
    exact w
  · have w := w.2 c
    refine fv_aload_n (ft_d o_Ch_weigh 39 rfl) rfl rfl ?_
    refine fv_iload_n (ft_d o_Ch_weigh 40 rfl) rfl rfl ?_
    refine fv_iload (ft_d o_Ch_weigh 41 rfl) rfl rfl ?_
    refine fv_iconst (ft_d o_Ch_weigh 42 rfl) rfl rfl ?_
    refine fv_iadd (ft_d o_Ch_weigh 43 rfl) rfl ?_
    refine fv_iload (ft_d o_Ch_weigh 44 rfl) rfl rfl ?_
    obtain ⟨R3, c4, w⟩ := w
    refine fv_callv (st := []) rfl rfl (ft_mm (pre := [.inl x6, .inl (ft_add x4 1), .inl x3, .inr (.inr 143)]) rfl) (ft_rnV (K' := k_Ch_weighOne) (As := [.inl x3, .inl (ft_add x4 1), .inl x6]) (ft_d o_Ch_weigh 45 rfl) ml_Ch_78 li_Ch_weighOne.1 li_Ch_weighOne.2 lw_Ch_weighOne ⟨rfl, rfl, Nat.le_of_ble_eq_true rfl, Nat.le_of_ble_eq_true rfl⟩ sh_143 rfl rfl rfl rfl (Nat.le_of_ble_eq_true rfl) c4) (fun h3 hw => ?_)
    have w := w h3 hw
    refine fv_aload_n (ft_d o_Ch_weigh 46 rfl) rfl rfl ?_
    refine fv_iload (ft_d o_Ch_weigh 47 rfl) rfl rfl ?_
    refine fv_iload (ft_d o_Ch_weigh 48 rfl) rfl rfl ?_
    refine fv_iload (ft_d o_Ch_weigh 49 rfl) rfl rfl ?_
    obtain ⟨R5, c6, w⟩ := w
    refine fv_callv (st := []) rfl rfl (ft_mm (pre := [.inl x5, .inl x6, .inl x4, .inr (.inr 143)]) rfl) (ft_rnV (K' := k_Ch_join) (As := [.inl x4, .inl x6, .inl x5]) (ft_d o_Ch_weigh 50 rfl) ml_Ch_82 li_Ch_join.1 li_Ch_join.2 lw_Ch_join ⟨rfl, rfl, Nat.le_of_ble_eq_true rfl, Nat.le_of_ble_eq_true rfl⟩ sh_143 rfl rfl rfl rfl (Nat.le_of_ble_eq_true rfl) c6) (fun h4 hw => ?_)
    have w := w h4 hw
    refine fv_iinc (L' := [some (.inr (.inr 143)), some (.inr (.inr r1)), none, some (.inl x3), some (.inl x4), some (.inl x5), some (.inl (ft_add x6 1))]) (ft_d o_Ch_weigh 51 rfl) rfl rfl (Nat.le_of_ble_eq_true rfl) rfl ?_
    refine fv_goto (pc' := 61) (ft_d o_Ch_weigh 52 rfl) rfl ?_
    exact w
set_option maxRecDepth 20000 in
theorem b_Ch_emptyRows_0 {x1 : Int} {h : ftH} {R : Option ftV → ftH → Prop} 
    (w : ((0 ≤ x1 ∧ x1 < 34) ∧ (∀ h1 : ftH, h1 = ft_hs h 286 x1.toNat 0 → (∀ n1 : Int, n1 = ft_mul 2 x1 → ft_V k_Ch_emptyRows 11 [some (.inr (.inr 143)), some (.inl x1), some (.inl n1)] [] h1 R)))) : ft_V k_Ch_emptyRows 0 [some (.inr (.inr 143)), some (.inl x1), none] [] h R := by
  refine fv_aload_n (ft_d o_Ch_emptyRows 0 rfl) rfl rfl ?_
  refine fv_getR (b := 286) (ft_d o_Ch_emptyRows 1 rfl) rfl fl_Ch_34 sh_143 rfl ly_143_6 ?_
  refine fv_iload_n (ft_d o_Ch_emptyRows 2 rfl) rfl rfl ?_
  refine fv_iconst (ft_d o_Ch_emptyRows 3 rfl) rfl rfl ?_
  refine fv_iast (ft_d o_Ch_emptyRows 4 rfl) rfl sh_286 w.1 ?_
  have w := w.2
  generalize eh1 : ft_hs h 286 x1.toNat 0 = h1
  have w := w h1 eh1.symm
  refine fv_iconst (ft_d o_Ch_emptyRows 5 rfl) rfl rfl ?_
  refine fv_iload_n (ft_d o_Ch_emptyRows 6 rfl) rfl rfl ?_
  refine fv_imul (ft_d o_Ch_emptyRows 7 rfl) rfl ?_
  generalize en1 : ft_mul 2 x1 = n1
  have w := w n1 en1.symm
  refine fv_istore_n (L' := [some (.inr (.inr 143)), some (.inl x1), some (.inl n1)]) (ft_d o_Ch_emptyRows 8 rfl) rfl (Nat.le_of_ble_eq_true rfl) rfl ?_
  exact w
set_option maxRecDepth 20000 in
theorem b_Ch_emptyRows_11 {x1 : Int} {x2 : Int} {h : ftH} {R : Option ftV → ftH → Prop} 
    (w : ((ft_add (ft_mul 2 x1) 1 < x2 → R none h) ∧ (¬ (ft_add (ft_mul 2 x1) 1 < x2) → ((0 ≤ x2 ∧ x2 < 68) ∧ ((0 ≤ (0 : Int) ∧ (0 : Int) < (ft_ln (149 + x2.toNat))) ∧ (∀ h1 : ftH, h1 = ft_hs h (149 + x2.toNat) (0 : Int).toNat 0 → ((0 ≤ x2 ∧ x2 < 68) ∧ ((0 ≤ (0 : Int) ∧ (0 : Int) < (ft_ln (218 + x2.toNat))) ∧ (∀ h2 : ftH, h2 = ft_hs h1 (218 + x2.toNat) (0 : Int).toNat 0 → ft_V k_Ch_emptyRows 11 [some (.inr (.inr 143)), some (.inl x1), some (.inl (ft_add x2 1))] [] h2 R))))))))) : ft_V k_Ch_emptyRows 11 [some (.inr (.inr 143)), some (.inl x1), some (.inl x2)] [] h R := by
  refine fv_iload_n (ft_d o_Ch_emptyRows 9 rfl) rfl rfl ?_
  refine fv_iconst (ft_d o_Ch_emptyRows 10 rfl) rfl rfl ?_
  refine fv_iload_n (ft_d o_Ch_emptyRows 11 rfl) rfl rfl ?_
  refine fv_imul (ft_d o_Ch_emptyRows 12 rfl) rfl ?_
  refine fv_iconst (ft_d o_Ch_emptyRows 13 rfl) rfl rfl ?_
  refine fv_iadd (ft_d o_Ch_emptyRows 14 rfl) rfl ?_
  refine fv_icmp_gt (tgt := 44) (ft_d o_Ch_emptyRows 15 rfl) rfl rfl (fun c => ?_) (fun c => ?_)
  · have w := w.1 c
    exact fv_return (ft_d o_Ch_emptyRows 32 rfl) rfl w
  · have w := w.2 c
    refine fv_aload_n (ft_d o_Ch_emptyRows 16 rfl) rfl rfl ?_
    refine fv_getR (b := 148) (ft_d o_Ch_emptyRows 17 rfl) rfl fl_Ch_26 sh_143 rfl ly_143_4 ?_
    refine fv_iload_n (ft_d o_Ch_emptyRows 18 rfl) rfl rfl ?_
    have b1 := w.1
    have w := w.2
    refine fv_aald (b := 149 + x2.toNat) (ft_d o_Ch_emptyRows 19 rfl) rfl sh_148 (Or.inr (Or.inl rfl)) b1 (lya_148 b1) ?_
    refine fv_iconst (ft_d o_Ch_emptyRows 20 rfl) rfl rfl ?_
    refine fv_iconst (ft_d o_Ch_emptyRows 21 rfl) rfl rfl ?_
    refine fv_iast (ft_d o_Ch_emptyRows 22 rfl) rfl (sha_148 b1) w.1 ?_
    have w := w.2
    generalize eh1 : ft_hs h (149 + x2.toNat) (0 : Int).toNat 0 = h1
    have w := w h1 eh1.symm
    refine fv_aload_n (ft_d o_Ch_emptyRows 23 rfl) rfl rfl ?_
    refine fv_getR (b := 217) (ft_d o_Ch_emptyRows 24 rfl) rfl fl_Ch_31 sh_143 rfl ly_143_5 ?_
    refine fv_iload_n (ft_d o_Ch_emptyRows 25 rfl) rfl rfl ?_
    have b2 := w.1
    have w := w.2
    refine fv_aald (b := 218 + x2.toNat) (ft_d o_Ch_emptyRows 26 rfl) rfl sh_217 (Or.inr (Or.inr rfl)) b2 (lya_217 b2) ?_
    refine fv_iconst (ft_d o_Ch_emptyRows 27 rfl) rfl rfl ?_
    refine fv_lconst (z := 0) (ft_d o_Ch_emptyRows 28 rfl) rfl rfl ?_
    refine fv_last (ft_d o_Ch_emptyRows 29 rfl) rfl (sha_217 b2) w.1 ?_
    have w := w.2
    generalize eh2 : ft_hs h1 (218 + x2.toNat) (0 : Int).toNat 0 = h2
    have w := w h2 eh2.symm
    refine fv_iinc (L' := [some (.inr (.inr 143)), some (.inl x1), some (.inl (ft_add x2 1))]) (ft_d o_Ch_emptyRows 30 rfl) rfl rfl (Nat.le_of_ble_eq_true rfl) rfl ?_
    refine fv_goto (pc' := 11) (ft_d o_Ch_emptyRows 31 rfl) rfl ?_
    exact w
set_option maxRecDepth 20000 in
theorem b_Ch_weighOne_0 {x1 : Int} {x2 : Int} {x3 : Int} {h : ftH} {R : Option ftV → ftH → Prop} 
    (w : ((0 ≤ x2 ∧ x2 < 34) ∧ (∀ n1 : Int, n1 = h 286 x2.toNat → ((0 ≤ ft_add (ft_mul 2 x2) 1 ∧ ft_add (ft_mul 2 x2) 1 < 68) ∧ ((0 ≤ ft_mul 2 x2 ∧ ft_mul 2 x2 < 68) ∧ ((0 ≤ ft_mul 2 x2 ∧ ft_mul 2 x2 < 68) ∧ ft_V k_Ch_weighOne 43 [some (.inr (.inr 143)), some (.inl x1), some (.inl x2), some (.inl x3), some (.inl n1), some (.inr (.inr (149 + (ft_add (ft_mul 2 x2) 1).toNat))), some (.inr (.inr (149 + (ft_mul 2 x2).toNat))), some (.inr (.inr (218 + (ft_mul 2 x2).toNat))), some (.inl 0), none, none, none, none] [] h R)))))) : ft_V k_Ch_weighOne 0 [some (.inr (.inr 143)), some (.inl x1), some (.inl x2), some (.inl x3), none, none, none, none, none, none, none, none, none] [] h R := by
  refine fv_aload_n (ft_d o_Ch_weighOne 0 rfl) rfl rfl ?_
  refine fv_getR (b := 286) (ft_d o_Ch_weighOne 1 rfl) rfl fl_Ch_34 sh_143 rfl ly_143_6 ?_
  refine fv_iload_n (ft_d o_Ch_weighOne 2 rfl) rfl rfl ?_
  refine fv_iald (ft_d o_Ch_weighOne 3 rfl) rfl sh_286 w.1 ?_
  have w := w.2
  generalize en1 : h 286 x2.toNat = n1
  have w := w n1 en1.symm
  refine fv_istore (L' := [some (.inr (.inr 143)), some (.inl x1), some (.inl x2), some (.inl x3), some (.inl n1), none, none, none, none, none, none, none, none]) (ft_d o_Ch_weighOne 4 rfl) rfl (Nat.le_of_ble_eq_true rfl) rfl ?_
  refine fv_aload_n (ft_d o_Ch_weighOne 5 rfl) rfl rfl ?_
  refine fv_getR (b := 148) (ft_d o_Ch_weighOne 6 rfl) rfl fl_Ch_26 sh_143 rfl ly_143_4 ?_
  refine fv_iconst (ft_d o_Ch_weighOne 7 rfl) rfl rfl ?_
  refine fv_iload_n (ft_d o_Ch_weighOne 8 rfl) rfl rfl ?_
  refine fv_imul (ft_d o_Ch_weighOne 9 rfl) rfl ?_
  refine fv_iconst (ft_d o_Ch_weighOne 10 rfl) rfl rfl ?_
  refine fv_iadd (ft_d o_Ch_weighOne 11 rfl) rfl ?_
  have b2 := w.1
  have w := w.2
  refine fv_aald (b := 149 + (ft_add (ft_mul 2 x2) 1).toNat) (ft_d o_Ch_weighOne 12 rfl) rfl sh_148 (Or.inr (Or.inl rfl)) b2 (lya_148 b2) ?_
  refine fv_astore (L' := [some (.inr (.inr 143)), some (.inl x1), some (.inl x2), some (.inl x3), some (.inl n1), some (.inr (.inr (149 + (ft_add (ft_mul 2 x2) 1).toNat))), none, none, none, none, none, none, none]) (ft_d o_Ch_weighOne 13 rfl) rfl (Nat.le_of_ble_eq_true rfl) rfl ?_
  refine fv_aload_n (ft_d o_Ch_weighOne 14 rfl) rfl rfl ?_
  refine fv_getR (b := 148) (ft_d o_Ch_weighOne 15 rfl) rfl fl_Ch_26 sh_143 rfl ly_143_4 ?_
  refine fv_iconst (ft_d o_Ch_weighOne 16 rfl) rfl rfl ?_
  refine fv_iload_n (ft_d o_Ch_weighOne 17 rfl) rfl rfl ?_
  refine fv_imul (ft_d o_Ch_weighOne 18 rfl) rfl ?_
  have b3 := w.1
  have w := w.2
  refine fv_aald (b := 149 + (ft_mul 2 x2).toNat) (ft_d o_Ch_weighOne 19 rfl) rfl sh_148 (Or.inr (Or.inl rfl)) b3 (lya_148 b3) ?_
  refine fv_astore (L' := [some (.inr (.inr 143)), some (.inl x1), some (.inl x2), some (.inl x3), some (.inl n1), some (.inr (.inr (149 + (ft_add (ft_mul 2 x2) 1).toNat))), some (.inr (.inr (149 + (ft_mul 2 x2).toNat))), none, none, none, none, none, none]) (ft_d o_Ch_weighOne 20 rfl) rfl (Nat.le_of_ble_eq_true rfl) rfl ?_
  refine fv_aload_n (ft_d o_Ch_weighOne 21 rfl) rfl rfl ?_
  refine fv_getR (b := 217) (ft_d o_Ch_weighOne 22 rfl) rfl fl_Ch_31 sh_143 rfl ly_143_5 ?_
  refine fv_iconst (ft_d o_Ch_weighOne 23 rfl) rfl rfl ?_
  refine fv_iload_n (ft_d o_Ch_weighOne 24 rfl) rfl rfl ?_
  refine fv_imul (ft_d o_Ch_weighOne 25 rfl) rfl ?_
  have b4 := w.1
  have w := w.2
  refine fv_aald (b := 218 + (ft_mul 2 x2).toNat) (ft_d o_Ch_weighOne 26 rfl) rfl sh_217 (Or.inr (Or.inr rfl)) b4 (lya_217 b4) ?_
  refine fv_astore (L' := [some (.inr (.inr 143)), some (.inl x1), some (.inl x2), some (.inl x3), some (.inl n1), some (.inr (.inr (149 + (ft_add (ft_mul 2 x2) 1).toNat))), some (.inr (.inr (149 + (ft_mul 2 x2).toNat))), some (.inr (.inr (218 + (ft_mul 2 x2).toNat))), none, none, none, none, none]) (ft_d o_Ch_weighOne 27 rfl) rfl (Nat.le_of_ble_eq_true rfl) rfl ?_
  refine fv_iconst (ft_d o_Ch_weighOne 28 rfl) rfl rfl ?_
  refine fv_istore (L' := [some (.inr (.inr 143)), some (.inl x1), some (.inl x2), some (.inl x3), some (.inl n1), some (.inr (.inr (149 + (ft_add (ft_mul 2 x2) 1).toNat))), some (.inr (.inr (149 + (ft_mul 2 x2).toNat))), some (.inr (.inr (218 + (ft_mul 2 x2).toNat))), some (.inl 0), none, none, none, none]) (ft_d o_Ch_weighOne 29 rfl) rfl (Nat.le_of_ble_eq_true rfl) rfl ?_
  exact w
set_option maxRecDepth 20000 in
theorem b_Ch_weighOne_43 {x1 : Int} {x2 : Int} {x3 : Int} {x4 : Int} {r5 : Nat} {r6 : Nat} {r7 : Nat} {x8 : Int} {h : ftH} {R : Option ftV → ftH → Prop} (hr5 : ft_sh r5 = some (.inr (0, ft_ln r5))) (hr6 : ft_sh r6 = some (.inr (0, ft_ln r6))) (hr7 : ft_sh r7 = some (.inr (1, ft_ln r7)))
    (w : ((ft_add x4 1 < x8 → R none h) ∧ (¬ (ft_add x4 1 < x8) → ((60 < x8 → R none h) ∧ (¬ (60 < x8) → (∀ n1 : Int, n1 = (-1) → ((x8 ≤ 0 → ft_V k_Ch_weighOne 118 [some (.inr (.inr 143)), some (.inl x1), some (.inl x2), some (.inl x3), some (.inl x4), some (.inr (.inr r5)), some (.inr (.inr r6)), some (.inr (.inr r7)), some (.inl x8), some (.inl n1), some (.inr (.inl 0)), none, none] [] h R) ∧ (¬ (x8 ≤ 0) → ((0 ≤ ft_sub x8 1 ∧ ft_sub x8 1 < (ft_ln r5)) ∧ ((h r5 (ft_sub x8 1).toNat < 0 → ft_V k_Ch_weighOne 118 [some (.inr (.inr 143)), some (.inl x1), some (.inl x2), some (.inl x3), some (.inl x4), some (.inr (.inr r5)), some (.inr (.inr r6)), some (.inr (.inr r7)), some (.inl x8), some (.inl n1), some (.inr (.inl 0)), none, none] [] h R) ∧ (¬ (h r5 (ft_sub x8 1).toNat < 0) → ((0 ≤ ft_sub x8 1 ∧ ft_sub x8 1 < (ft_ln r5)) ∧ ((0 ≤ x1 ∧ x1 < 60) ∧ (∀ n2 : Int, n2 = ft_add (h r5 (ft_sub x8 1).toNat) (h 144 x1.toNat) → ((0 ≤ ft_add (ft_mul 2 x2) 1 ∧ ft_add (ft_mul 2 x2) 1 < 68) ∧ ((0 ≤ ft_sub x8 1 ∧ ft_sub x8 1 < (ft_ln (218 + (ft_add (ft_mul 2 x2) 1).toNat))) ∧ ((0 ≤ x1 ∧ x1 < 60) ∧ (∀ n6 : Int, n6 = ft_orL (h (218 + (ft_add (ft_mul 2 x2) 1).toNat) (ft_sub x8 1).toNat) (2 ^ (59 - x1.toNat)) → ft_V k_Ch_weighOne 118 [some (.inr (.inr 143)), some (.inl x1), some (.inl x2), some (.inl x3), some (.inl x4), some (.inr (.inr r5)), some (.inr (.inr r6)), some (.inr (.inr r7)), some (.inl x8), some (.inl n2), some (.inr (.inl n6)), none, none] [] h R)))))))))))))))))) : ft_V k_Ch_weighOne 43 [some (.inr (.inr 143)), some (.inl x1), some (.inl x2), some (.inl x3), some (.inl x4), some (.inr (.inr r5)), some (.inr (.inr r6)), some (.inr (.inr r7)), some (.inl x8), none, none, none, none] [] h R := by
  refine fv_iload (ft_d o_Ch_weighOne 30 rfl) rfl rfl ?_
  refine fv_iload (ft_d o_Ch_weighOne 31 rfl) rfl rfl ?_
  refine fv_iconst (ft_d o_Ch_weighOne 32 rfl) rfl rfl ?_
  refine fv_iadd (ft_d o_Ch_weighOne 33 rfl) rfl ?_
  refine fv_icmp_gt (tgt := 194) (ft_d o_Ch_weighOne 34 rfl) rfl rfl (fun c => ?_) (fun c => ?_)
  · have w := w.1 c
    exact fv_return (ft_d o_Ch_weighOne 116 rfl) rfl w
  · have w := w.2 c
    refine fv_iload (ft_d o_Ch_weighOne 35 rfl) rfl rfl ?_
    refine fv_bipush (ft_d o_Ch_weighOne 36 rfl) rfl rfl ?_
    refine fv_icmp_gt (tgt := 194) (ft_d o_Ch_weighOne 37 rfl) rfl rfl (fun c => ?_) (fun c => ?_)
    · have w := w.1 c
      exact fv_return (ft_d o_Ch_weighOne 116 rfl) rfl w
    · have w := w.2 c
      refine fv_iconst (ft_d o_Ch_weighOne 38 rfl) rfl rfl ?_
      generalize en1 : (-1) = n1
      have w := w n1 en1.symm
      refine fv_istore (L' := [some (.inr (.inr 143)), some (.inl x1), some (.inl x2), some (.inl x3), some (.inl x4), some (.inr (.inr r5)), some (.inr (.inr r6)), some (.inr (.inr r7)), some (.inl x8), some (.inl n1), none, none, none]) (ft_d o_Ch_weighOne 39 rfl) rfl (Nat.le_of_ble_eq_true rfl) rfl ?_
      refine fv_lconst (z := 0) (ft_d o_Ch_weighOne 40 rfl) rfl rfl ?_
      refine fv_lstore (L' := [some (.inr (.inr 143)), some (.inl x1), some (.inl x2), some (.inl x3), some (.inl x4), some (.inr (.inr r5)), some (.inr (.inr r6)), some (.inr (.inr r7)), some (.inl x8), some (.inl n1), some (.inr (.inl 0)), none, none]) (ft_d o_Ch_weighOne 41 rfl) rfl (Nat.le_of_ble_eq_true rfl) rfl ?_
      refine fv_iload (ft_d o_Ch_weighOne 42 rfl) rfl rfl ?_
      refine fv_if_le (tgt := 118) (ft_d o_Ch_weighOne 43 rfl) rfl rfl (fun c => ?_) (fun c => ?_)
      · have w := w.1 c
        exact w
      · have w := w.2 c
        refine fv_aload (ft_d o_Ch_weighOne 44 rfl) rfl rfl ?_
        refine fv_iload (ft_d o_Ch_weighOne 45 rfl) rfl rfl ?_
        refine fv_iconst (ft_d o_Ch_weighOne 46 rfl) rfl rfl ?_
        refine fv_isub (ft_d o_Ch_weighOne 47 rfl) rfl ?_
        refine fv_iald (ft_d o_Ch_weighOne 48 rfl) rfl hr5 w.1 ?_
        have w := w.2
        refine fv_if_lt (tgt := 118) (ft_d o_Ch_weighOne 49 rfl) rfl rfl (fun c => ?_) (fun c => ?_)
        · have w := w.1 c
          exact w
        · have w := w.2 c
          refine fv_aload (ft_d o_Ch_weighOne 50 rfl) rfl rfl ?_
          refine fv_iload (ft_d o_Ch_weighOne 51 rfl) rfl rfl ?_
          refine fv_iconst (ft_d o_Ch_weighOne 52 rfl) rfl rfl ?_
          refine fv_isub (ft_d o_Ch_weighOne 53 rfl) rfl ?_
          refine fv_iald (ft_d o_Ch_weighOne 54 rfl) rfl hr5 w.1 ?_
          have w := w.2
          refine fv_aload_n (ft_d o_Ch_weighOne 55 rfl) rfl rfl ?_
          refine fv_getR (b := 144) (ft_d o_Ch_weighOne 56 rfl) rfl fl_Ch_9 sh_143 rfl ly_143_0 ?_
          refine fv_iload_n (ft_d o_Ch_weighOne 57 rfl) rfl rfl ?_
          refine fv_iald (ft_d o_Ch_weighOne 58 rfl) rfl sh_144 w.1 ?_
          have w := w.2
          refine fv_iadd (ft_d o_Ch_weighOne 59 rfl) rfl ?_
          generalize en2 : ft_add (h r5 (ft_sub x8 1).toNat) (h 144 x1.toNat) = n2
          have w := w n2 en2.symm
          refine fv_istore (L' := [some (.inr (.inr 143)), some (.inl x1), some (.inl x2), some (.inl x3), some (.inl x4), some (.inr (.inr r5)), some (.inr (.inr r6)), some (.inr (.inr r7)), some (.inl x8), some (.inl n2), some (.inr (.inl 0)), none, none]) (ft_d o_Ch_weighOne 60 rfl) rfl (Nat.le_of_ble_eq_true rfl) rfl ?_
          refine fv_aload_n (ft_d o_Ch_weighOne 61 rfl) rfl rfl ?_
          refine fv_getR (b := 217) (ft_d o_Ch_weighOne 62 rfl) rfl fl_Ch_31 sh_143 rfl ly_143_5 ?_
          refine fv_iconst (ft_d o_Ch_weighOne 63 rfl) rfl rfl ?_
          refine fv_iload_n (ft_d o_Ch_weighOne 64 rfl) rfl rfl ?_
          refine fv_imul (ft_d o_Ch_weighOne 65 rfl) rfl ?_
          refine fv_iconst (ft_d o_Ch_weighOne 66 rfl) rfl rfl ?_
          refine fv_iadd (ft_d o_Ch_weighOne 67 rfl) rfl ?_
          have b3 := w.1
          have w := w.2
          refine fv_aald (b := 218 + (ft_add (ft_mul 2 x2) 1).toNat) (ft_d o_Ch_weighOne 68 rfl) rfl sh_217 (Or.inr (Or.inr rfl)) b3 (lya_217 b3) ?_
          refine fv_iload (ft_d o_Ch_weighOne 69 rfl) rfl rfl ?_
          refine fv_iconst (ft_d o_Ch_weighOne 70 rfl) rfl rfl ?_
          refine fv_isub (ft_d o_Ch_weighOne 71 rfl) rfl ?_
          refine fv_lald (ft_d o_Ch_weighOne 72 rfl) rfl (sha_217 b3) w.1 ?_
          have w := w.2
          refine fv_iload_n (ft_d o_Ch_weighOne 73 rfl) rfl rfl ?_
          refine fv_calllf (st := [.inr (.inl (h (218 + (ft_add (ft_mul 2 x2) 1).toNat) (ft_sub x8 1).toNat))]) (z := 2 ^ (59 - x1.toNat)) rfl rfl (ft_mm (pre := [.inl x1]) rfl) (ft_rnS (K' := k_Ch_bitOf) (As := [.inl x1]) (ft_d o_Ch_weighOne 74 rfl) ml_Ch_85 lz_Ch_bitOf rfl lw_Ch_bitOf ⟨rfl, rfl, Nat.le_of_ble_eq_true rfl, Nat.le_of_ble_eq_true rfl⟩ rfl rfl (Nat.le_of_ble_eq_true rfl) (c_Ch_bitOf w.1)) ?_
          have w := w.2
          refine fv_lor (ft_d o_Ch_weighOne 75 rfl) rfl ?_
          generalize en6 : ft_orL (h (218 + (ft_add (ft_mul 2 x2) 1).toNat) (ft_sub x8 1).toNat) (2 ^ (59 - x1.toNat)) = n6
          have w := w n6 en6.symm
          refine fv_lstore (L' := [some (.inr (.inr 143)), some (.inl x1), some (.inl x2), some (.inl x3), some (.inl x4), some (.inr (.inr r5)), some (.inr (.inr r6)), some (.inr (.inr r7)), some (.inl x8), some (.inl n2), some (.inr (.inl n6)), none, none]) (ft_d o_Ch_weighOne 76 rfl) rfl (Nat.le_of_ble_eq_true rfl) rfl ?_
          exact w
set_option maxRecDepth 20000 in
theorem b_Ch_weighOne_118 {x1 : Int} {x2 : Int} {x3 : Int} {x4 : Int} {r5 : Nat} {r6 : Nat} {r7 : Nat} {x8 : Int} {x9 : Int} {x10 : Int} {h : ftH} {R : Option ftV → ftH → Prop} (hr5 : ft_sh r5 = some (.inr (0, ft_ln r5))) (hr6 : ft_sh r6 = some (.inr (0, ft_ln r6))) (hr7 : ft_sh r7 = some (.inr (1, ft_ln r7)))
    (w : (∀ n1 : Int, n1 = ft_sub x8 x3 → ((n1 < 0 → ft_V k_Ch_weighOne 170 [some (.inr (.inr 143)), some (.inl x1), some (.inl x2), some (.inl x3), some (.inl x4), some (.inr (.inr r5)), some (.inr (.inr r6)), some (.inr (.inr r7)), some (.inl x8), some (.inl x9), some (.inr (.inl x10)), none, none] [] h R) ∧ (¬ (n1 < 0) → ((x4 < n1 → ft_V k_Ch_weighOne 170 [some (.inr (.inr 143)), some (.inl x1), some (.inl x2), some (.inl x3), some (.inl x4), some (.inr (.inr r5)), some (.inr (.inr r6)), some (.inr (.inr r7)), some (.inl x8), some (.inl x9), some (.inr (.inl x10)), none, none] [] h R) ∧ (¬ (x4 < n1) → ((0 ≤ n1 ∧ n1 < (ft_ln r6)) ∧ ((0 ≤ n1 ∧ n1 < (ft_ln r7)) ∧ ((¬ (x9 < (h r6 n1.toNat) ∨ (h r6 n1.toNat) = x9 ∧ x10 < (h r7 n1.toNat)) → ft_V k_Ch_weighOne 170 [some (.inr (.inr 143)), some (.inl x1), some (.inl x2), some (.inl x3), some (.inl x4), some (.inr (.inr r5)), some (.inr (.inr r6)), some (.inr (.inr r7)), some (.inl x8), some (.inl x9), some (.inr (.inl x10)), none, none] [] h R) ∧ (x9 < (h r6 n1.toNat) ∨ (h r6 n1.toNat) = x9 ∧ x10 < (h r7 n1.toNat) → ((0 ≤ n1 ∧ n1 < (ft_ln r6)) ∧ (∀ n4 : Int, n4 = h r6 n1.toNat → ((0 ≤ n1 ∧ n1 < (ft_ln r7)) ∧ (∀ n5 : Int, n5 = h r7 n1.toNat → ft_V k_Ch_weighOne 170 [some (.inr (.inr 143)), some (.inl x1), some (.inl x2), some (.inl x3), some (.inl x4), some (.inr (.inr r5)), some (.inr (.inr r6)), some (.inr (.inr r7)), some (.inl x8), some (.inl n4), some (.inr (.inl n5)), none, none] [] h R)))))))))))))) : ft_V k_Ch_weighOne 118 [some (.inr (.inr 143)), some (.inl x1), some (.inl x2), some (.inl x3), some (.inl x4), some (.inr (.inr r5)), some (.inr (.inr r6)), some (.inr (.inr r7)), some (.inl x8), some (.inl x9), some (.inr (.inl x10)), none, none] [] h R := by
  refine fv_iload (ft_d o_Ch_weighOne 77 rfl) rfl rfl ?_
  refine fv_iload_n (ft_d o_Ch_weighOne 78 rfl) rfl rfl ?_
  refine fv_isub (ft_d o_Ch_weighOne 79 rfl) rfl ?_
  generalize en1 : ft_sub x8 x3 = n1
  have w := w n1 en1.symm
  refine fv_istore (L' := [some (.inr (.inr 143)), some (.inl x1), some (.inl x2), some (.inl x3), some (.inl x4), some (.inr (.inr r5)), some (.inr (.inr r6)), some (.inr (.inr r7)), some (.inl x8), some (.inl x9), some (.inr (.inl x10)), none, some (.inl n1)]) (ft_d o_Ch_weighOne 80 rfl) rfl (Nat.le_of_ble_eq_true rfl) rfl ?_
  refine fv_iload (ft_d o_Ch_weighOne 81 rfl) rfl rfl ?_
  refine fv_if_lt (tgt := 170) (ft_d o_Ch_weighOne 82 rfl) rfl rfl (fun c => ?_) (fun c => ?_)
  · have w := w.1 c
    refine fv_mask (M := [true, true, true, true, true, true, true, true, true, true, true, false, false]) rfl ?_
    exact w
  · have w := w.2 c
    refine fv_iload (ft_d o_Ch_weighOne 83 rfl) rfl rfl ?_
    refine fv_iload (ft_d o_Ch_weighOne 84 rfl) rfl rfl ?_
    refine fv_icmp_gt (tgt := 170) (ft_d o_Ch_weighOne 85 rfl) rfl rfl (fun c => ?_) (fun c => ?_)
    · have w := w.1 c
      refine fv_mask (M := [true, true, true, true, true, true, true, true, true, true, true, false, false]) rfl ?_
      exact w
    · have w := w.2 c
      refine fv_aload (ft_d o_Ch_weighOne 86 rfl) rfl rfl ?_
      refine fv_iload (ft_d o_Ch_weighOne 87 rfl) rfl rfl ?_
      refine fv_iald (ft_d o_Ch_weighOne 88 rfl) rfl hr6 w.1 ?_
      have w := w.2
      refine fv_aload (ft_d o_Ch_weighOne 89 rfl) rfl rfl ?_
      refine fv_iload (ft_d o_Ch_weighOne 90 rfl) rfl rfl ?_
      refine fv_lald (ft_d o_Ch_weighOne 91 rfl) rfl hr7 w.1 ?_
      have w := w.2
      refine fv_iload (ft_d o_Ch_weighOne 92 rfl) rfl rfl ?_
      refine fv_lload (ft_d o_Ch_weighOne 93 rfl) rfl rfl ?_
      refine fv_callif (st := []) (z := (if x9 < (h r6 n1.toNat) ∨ (h r6 n1.toNat) = x9 ∧ x10 < (h r7 n1.toNat) then 1 else 0)) (Or.inr rfl) rfl (ft_mm (pre := [.inr (.inl x10), .inl x9, .inr (.inl (h r7 n1.toNat)), .inl (h r6 n1.toNat)]) rfl) (ft_rnS (K' := k_Ch_isBetter) (As := [.inl (h r6 n1.toNat), .inr (.inl (h r7 n1.toNat)), .inl x9, .inr (.inl x10)]) (ft_d o_Ch_weighOne 94 rfl) ml_Ch_89 lz_Ch_isBetter rfl lw_Ch_isBetter ⟨rfl, rfl, Nat.le_of_ble_eq_true rfl, Nat.le_of_ble_eq_true rfl⟩ rfl rfl (Nat.le_of_ble_eq_true rfl) (c_Ch_isBetter)) ?_
      refine fv_if_eq (tgt := 170) (ft_d o_Ch_weighOne 95 rfl) rfl rfl (fun c => ?_) (fun c => ?_)
      · have w := w.1 (ft_if0.mp c)
        refine fv_mask (M := [true, true, true, true, true, true, true, true, true, true, true, false, false]) rfl ?_
        exact w
      · have w := w.2 (ft_if1.mp c)
        refine fv_aload (ft_d o_Ch_weighOne 96 rfl) rfl rfl ?_
        refine fv_iload (ft_d o_Ch_weighOne 97 rfl) rfl rfl ?_
        refine fv_iald (ft_d o_Ch_weighOne 98 rfl) rfl hr6 w.1 ?_
        have w := w.2
        generalize en4 : h r6 n1.toNat = n4
        have w := w n4 en4.symm
        refine fv_istore (L' := [some (.inr (.inr 143)), some (.inl x1), some (.inl x2), some (.inl x3), some (.inl x4), some (.inr (.inr r5)), some (.inr (.inr r6)), some (.inr (.inr r7)), some (.inl x8), some (.inl n4), some (.inr (.inl x10)), none, some (.inl n1)]) (ft_d o_Ch_weighOne 99 rfl) rfl (Nat.le_of_ble_eq_true rfl) rfl ?_
        refine fv_aload (ft_d o_Ch_weighOne 100 rfl) rfl rfl ?_
        refine fv_iload (ft_d o_Ch_weighOne 101 rfl) rfl rfl ?_
        refine fv_lald (ft_d o_Ch_weighOne 102 rfl) rfl hr7 w.1 ?_
        have w := w.2
        generalize en5 : h r7 n1.toNat = n5
        have w := w n5 en5.symm
        refine fv_lstore (L' := [some (.inr (.inr 143)), some (.inl x1), some (.inl x2), some (.inl x3), some (.inl x4), some (.inr (.inr r5)), some (.inr (.inr r6)), some (.inr (.inr r7)), some (.inl x8), some (.inl n4), some (.inr (.inl n5)), none, some (.inl n1)]) (ft_d o_Ch_weighOne 103 rfl) rfl (Nat.le_of_ble_eq_true rfl) rfl ?_
        refine fv_mask (M := [true, true, true, true, true, true, true, true, true, true, true, false, false]) rfl ?_
        exact w
set_option maxRecDepth 20000 in
theorem b_Ch_weighOne_170 {x1 : Int} {x2 : Int} {x3 : Int} {x4 : Int} {r5 : Nat} {r6 : Nat} {r7 : Nat} {x8 : Int} {x9 : Int} {x10 : Int} {h : ftH} {R : Option ftV → ftH → Prop} (hr5 : ft_sh r5 = some (.inr (0, ft_ln r5))) (hr6 : ft_sh r6 = some (.inr (0, ft_ln r6))) (hr7 : ft_sh r7 = some (.inr (1, ft_ln r7)))
    (w : ((0 ≤ x8 ∧ x8 < 61) ∧ (∀ h1 : ftH, h1 = ft_hs h 287 x8.toNat x9 → ((0 ≤ x8 ∧ x8 < 61) ∧ (∀ h2 : ftH, h2 = ft_hs h1 288 x8.toNat x10 → ft_V k_Ch_weighOne 43 [some (.inr (.inr 143)), some (.inl x1), some (.inl x2), some (.inl x3), some (.inl x4), some (.inr (.inr r5)), some (.inr (.inr r6)), some (.inr (.inr r7)), some (.inl (ft_add x8 1)), none, none, none, none] [] h2 R))))) : ft_V k_Ch_weighOne 170 [some (.inr (.inr 143)), some (.inl x1), some (.inl x2), some (.inl x3), some (.inl x4), some (.inr (.inr r5)), some (.inr (.inr r6)), some (.inr (.inr r7)), some (.inl x8), some (.inl x9), some (.inr (.inl x10)), none, none] [] h R := by
  refine fv_aload_n (ft_d o_Ch_weighOne 104 rfl) rfl rfl ?_
  refine fv_getR (b := 287) (ft_d o_Ch_weighOne 105 rfl) rfl fl_Ch_37 sh_143 rfl ly_143_7 ?_
  refine fv_iload (ft_d o_Ch_weighOne 106 rfl) rfl rfl ?_
  refine fv_iload (ft_d o_Ch_weighOne 107 rfl) rfl rfl ?_
  refine fv_iast (ft_d o_Ch_weighOne 108 rfl) rfl sh_287 w.1 ?_
  have w := w.2
  generalize eh1 : ft_hs h 287 x8.toNat x9 = h1
  have w := w h1 eh1.symm
  refine fv_aload_n (ft_d o_Ch_weighOne 109 rfl) rfl rfl ?_
  refine fv_getR (b := 288) (ft_d o_Ch_weighOne 110 rfl) rfl fl_Ch_40 sh_143 rfl ly_143_8 ?_
  refine fv_iload (ft_d o_Ch_weighOne 111 rfl) rfl rfl ?_
  refine fv_lload (ft_d o_Ch_weighOne 112 rfl) rfl rfl ?_
  refine fv_last (ft_d o_Ch_weighOne 113 rfl) rfl sh_288 w.1 ?_
  have w := w.2
  generalize eh2 : ft_hs h1 288 x8.toNat x10 = h2
  have w := w h2 eh2.symm
  refine fv_iinc (L' := [some (.inr (.inr 143)), some (.inl x1), some (.inl x2), some (.inl x3), some (.inl x4), some (.inr (.inr r5)), some (.inr (.inr r6)), some (.inr (.inr r7)), some (.inl (ft_add x8 1)), some (.inl x9), some (.inr (.inl x10)), none, none]) (ft_d o_Ch_weighOne 114 rfl) rfl rfl (Nat.le_of_ble_eq_true rfl) rfl ?_
  refine fv_goto (pc' := 43) (ft_d o_Ch_weighOne 115 rfl) rfl ?_
  refine fv_mask (M := [true, true, true, true, true, true, true, true, true, false, false, false, false]) rfl ?_
  exact w
set_option maxRecDepth 20000 in
theorem b_Ch_join_0 {x1 : Int} {x2 : Int} {x3 : Int} {h : ftH} {R : Option ftV → ftH → Prop} 
    (w : ((0 ≤ ft_add (ft_mul 2 x1) x2 ∧ ft_add (ft_mul 2 x1) x2 < 68) ∧ ((0 ≤ ft_add (ft_mul 2 x1) x2 ∧ ft_add (ft_mul 2 x1) x2 < 68) ∧ ((0 ≤ x1 ∧ x1 < 34) ∧ (∀ n3 : Int, n3 = h 286 x1.toNat → (∀ n4 : Int, n4 = min (ft_add n3 x3) 60 → ft_V k_Ch_join 43 [some (.inr (.inr 143)), none, none, some (.inl x3), some (.inr (.inr (149 + (ft_add (ft_mul 2 x1) x2).toNat))), some (.inr (.inr (218 + (ft_add (ft_mul 2 x1) x2).toNat))), some (.inl n3), some (.inl n4), none, none, none, none, none, none, none, none, none] [] h R)))))) : ft_V k_Ch_join 0 [some (.inr (.inr 143)), some (.inl x1), some (.inl x2), some (.inl x3), none, none, none, none, none, none, none, none, none, none, none, none, none] [] h R := by
  refine fv_aload_n (ft_d o_Ch_join 0 rfl) rfl rfl ?_
  refine fv_getR (b := 148) (ft_d o_Ch_join 1 rfl) rfl fl_Ch_26 sh_143 rfl ly_143_4 ?_
  refine fv_iconst (ft_d o_Ch_join 2 rfl) rfl rfl ?_
  refine fv_iload_n (ft_d o_Ch_join 3 rfl) rfl rfl ?_
  refine fv_imul (ft_d o_Ch_join 4 rfl) rfl ?_
  refine fv_iload_n (ft_d o_Ch_join 5 rfl) rfl rfl ?_
  refine fv_iadd (ft_d o_Ch_join 6 rfl) rfl ?_
  have b1 := w.1
  have w := w.2
  refine fv_aald (b := 149 + (ft_add (ft_mul 2 x1) x2).toNat) (ft_d o_Ch_join 7 rfl) rfl sh_148 (Or.inr (Or.inl rfl)) b1 (lya_148 b1) ?_
  refine fv_astore (L' := [some (.inr (.inr 143)), some (.inl x1), some (.inl x2), some (.inl x3), some (.inr (.inr (149 + (ft_add (ft_mul 2 x1) x2).toNat))), none, none, none, none, none, none, none, none, none, none, none, none]) (ft_d o_Ch_join 8 rfl) rfl (Nat.le_of_ble_eq_true rfl) rfl ?_
  refine fv_aload_n (ft_d o_Ch_join 9 rfl) rfl rfl ?_
  refine fv_getR (b := 217) (ft_d o_Ch_join 10 rfl) rfl fl_Ch_31 sh_143 rfl ly_143_5 ?_
  refine fv_iconst (ft_d o_Ch_join 11 rfl) rfl rfl ?_
  refine fv_iload_n (ft_d o_Ch_join 12 rfl) rfl rfl ?_
  refine fv_imul (ft_d o_Ch_join 13 rfl) rfl ?_
  refine fv_iload_n (ft_d o_Ch_join 14 rfl) rfl rfl ?_
  refine fv_iadd (ft_d o_Ch_join 15 rfl) rfl ?_
  have b2 := w.1
  have w := w.2
  refine fv_aald (b := 218 + (ft_add (ft_mul 2 x1) x2).toNat) (ft_d o_Ch_join 16 rfl) rfl sh_217 (Or.inr (Or.inr rfl)) b2 (lya_217 b2) ?_
  refine fv_astore (L' := [some (.inr (.inr 143)), some (.inl x1), some (.inl x2), some (.inl x3), some (.inr (.inr (149 + (ft_add (ft_mul 2 x1) x2).toNat))), some (.inr (.inr (218 + (ft_add (ft_mul 2 x1) x2).toNat))), none, none, none, none, none, none, none, none, none, none, none]) (ft_d o_Ch_join 17 rfl) rfl (Nat.le_of_ble_eq_true rfl) rfl ?_
  refine fv_aload_n (ft_d o_Ch_join 18 rfl) rfl rfl ?_
  refine fv_getR (b := 286) (ft_d o_Ch_join 19 rfl) rfl fl_Ch_34 sh_143 rfl ly_143_6 ?_
  refine fv_iload_n (ft_d o_Ch_join 20 rfl) rfl rfl ?_
  refine fv_iald (ft_d o_Ch_join 21 rfl) rfl sh_286 w.1 ?_
  have w := w.2
  generalize en3 : h 286 x1.toNat = n3
  have w := w n3 en3.symm
  refine fv_istore (L' := [some (.inr (.inr 143)), some (.inl x1), some (.inl x2), some (.inl x3), some (.inr (.inr (149 + (ft_add (ft_mul 2 x1) x2).toNat))), some (.inr (.inr (218 + (ft_add (ft_mul 2 x1) x2).toNat))), some (.inl n3), none, none, none, none, none, none, none, none, none, none]) (ft_d o_Ch_join 22 rfl) rfl (Nat.le_of_ble_eq_true rfl) rfl ?_
  refine fv_iload (ft_d o_Ch_join 23 rfl) rfl rfl ?_
  refine fv_iload_n (ft_d o_Ch_join 24 rfl) rfl rfl ?_
  refine fv_iadd (ft_d o_Ch_join 25 rfl) rfl ?_
  refine fv_bipush (ft_d o_Ch_join 26 rfl) rfl rfl ?_
  refine fv_min (ft_d o_Ch_join 27 rfl) rfl ml_Ch_72 (Nat.le_of_ble_eq_true rfl) (Nat.le_of_ble_eq_true rfl) (Nat.le_of_ble_eq_true rfl) ?_
  generalize en4 : min (ft_add n3 x3) 60 = n4
  have w := w n4 en4.symm
  refine fv_istore (L' := [some (.inr (.inr 143)), some (.inl x1), some (.inl x2), some (.inl x3), some (.inr (.inr (149 + (ft_add (ft_mul 2 x1) x2).toNat))), some (.inr (.inr (218 + (ft_add (ft_mul 2 x1) x2).toNat))), some (.inl n3), some (.inl n4), none, none, none, none, none, none, none, none, none]) (ft_d o_Ch_join 28 rfl) rfl (Nat.le_of_ble_eq_true rfl) rfl ?_
  refine fv_mask (M := [true, false, false, true, true, true, true, true, false, false, false, false, false, false, false, false, false]) rfl ?_
  exact w
set_option maxRecDepth 20000 in
theorem b_Ch_join_43 {x3 : Int} {r4 : Nat} {r5 : Nat} {x6 : Int} {x7 : Int} {h : ftH} {R : Option ftV → ftH → Prop} (hr4 : ft_sh r4 = some (.inr (0, ft_ln r4))) (hr5 : ft_sh r5 = some (.inr (1, ft_ln r5)))
    (w : ((x7 < 0 → R none h) ∧ (¬ (x7 < 0) → (∀ n1 : Int, n1 = (-1) → (∀ n2 : Int, n2 = min x7 x3 → (∀ n3 : Int, n3 = max 0 (ft_sub x7 x6) → ft_V k_Ch_join 73 [some (.inr (.inr 143)), none, none, some (.inl x3), some (.inr (.inr r4)), some (.inr (.inr r5)), some (.inl x6), some (.inl x7), some (.inl n1), some (.inr (.inl 0)), none, some (.inl n2), some (.inl n3), none, none, none, none] [] h R)))))) : ft_V k_Ch_join 43 [some (.inr (.inr 143)), none, none, some (.inl x3), some (.inr (.inr r4)), some (.inr (.inr r5)), some (.inl x6), some (.inl x7), none, none, none, none, none, none, none, none, none] [] h R := by
  refine fv_iload (ft_d o_Ch_join 29 rfl) rfl rfl ?_
  refine fv_if_lt (tgt := 186) (ft_d o_Ch_join 30 rfl) rfl rfl (fun c => ?_) (fun c => ?_)
  · have w := w.1 c
    exact fv_return (ft_d o_Ch_join 102 rfl) rfl w
  · have w := w.2 c
    refine fv_iconst (ft_d o_Ch_join 31 rfl) rfl rfl ?_
    generalize en1 : (-1) = n1
    have w := w n1 en1.symm
    refine fv_istore (L' := [some (.inr (.inr 143)), none, none, some (.inl x3), some (.inr (.inr r4)), some (.inr (.inr r5)), some (.inl x6), some (.inl x7), some (.inl n1), none, none, none, none, none, none, none, none]) (ft_d o_Ch_join 32 rfl) rfl (Nat.le_of_ble_eq_true rfl) rfl ?_
    refine fv_lconst (z := 0) (ft_d o_Ch_join 33 rfl) rfl rfl ?_
    refine fv_lstore (L' := [some (.inr (.inr 143)), none, none, some (.inl x3), some (.inr (.inr r4)), some (.inr (.inr r5)), some (.inl x6), some (.inl x7), some (.inl n1), some (.inr (.inl 0)), none, none, none, none, none, none, none]) (ft_d o_Ch_join 34 rfl) rfl (Nat.le_of_ble_eq_true rfl) rfl ?_
    refine fv_iload (ft_d o_Ch_join 35 rfl) rfl rfl ?_
    refine fv_iload_n (ft_d o_Ch_join 36 rfl) rfl rfl ?_
    refine fv_min (ft_d o_Ch_join 37 rfl) rfl ml_Ch_72 (Nat.le_of_ble_eq_true rfl) (Nat.le_of_ble_eq_true rfl) (Nat.le_of_ble_eq_true rfl) ?_
    generalize en2 : min x7 x3 = n2
    have w := w n2 en2.symm
    refine fv_istore (L' := [some (.inr (.inr 143)), none, none, some (.inl x3), some (.inr (.inr r4)), some (.inr (.inr r5)), some (.inl x6), some (.inl x7), some (.inl n1), some (.inr (.inl 0)), none, some (.inl n2), none, none, none, none, none]) (ft_d o_Ch_join 38 rfl) rfl (Nat.le_of_ble_eq_true rfl) rfl ?_
    refine fv_iconst (ft_d o_Ch_join 39 rfl) rfl rfl ?_
    refine fv_iload (ft_d o_Ch_join 40 rfl) rfl rfl ?_
    refine fv_iload (ft_d o_Ch_join 41 rfl) rfl rfl ?_
    refine fv_isub (ft_d o_Ch_join 42 rfl) rfl ?_
    refine fv_max (ft_d o_Ch_join 43 rfl) rfl ml_Ch_93 (Nat.le_of_ble_eq_true rfl) (Nat.le_of_ble_eq_true rfl) (Nat.le_of_ble_eq_true rfl) ?_
    generalize en3 : max 0 (ft_sub x7 x6) = n3
    have w := w n3 en3.symm
    refine fv_istore (L' := [some (.inr (.inr 143)), none, none, some (.inl x3), some (.inr (.inr r4)), some (.inr (.inr r5)), some (.inl x6), some (.inl x7), some (.inl n1), some (.inr (.inl 0)), none, some (.inl n2), some (.inl n3), none, none, none, none]) (ft_d o_Ch_join 44 rfl) rfl (Nat.le_of_ble_eq_true rfl) rfl ?_
    exact w
set_option maxRecDepth 20000 in
theorem b_Ch_join_73 {x3 : Int} {r4 : Nat} {r5 : Nat} {x6 : Int} {x7 : Int} {x8 : Int} {x9 : Int} {x11 : Int} {x12 : Int} {h : ftH} {R : Option ftV → ftH → Prop} (hr4 : ft_sh r4 = some (.inr (0, ft_ln r4))) (hr5 : ft_sh r5 = some (.inr (1, ft_ln r5)))
    (w : ((x11 < x12 → ((0 ≤ x7 ∧ x7 < (ft_ln r4)) ∧ (∀ h1 : ftH, h1 = ft_hs h r4 x7.toNat x8 → ((0 ≤ x7 ∧ x7 < (ft_ln r5)) ∧ (∀ h2 : ftH, h2 = ft_hs h1 r5 x7.toNat x9 → ft_V k_Ch_join 43 [some (.inr (.inr 143)), none, none, some (.inl x3), some (.inr (.inr r4)), some (.inr (.inr r5)), some (.inl x6), some (.inl (ft_add x7 (-1))), none, none, none, none, none, none, none, none, none] [] h2 R))))) ∧ (¬ (x11 < x12) → (∀ n1 : Int, n1 = ft_sub x7 x12 → ((0 ≤ x12 ∧ x12 < 61) ∧ ((h 287 x12.toNat < 0 → ft_V k_Ch_join 73 [some (.inr (.inr 143)), none, none, some (.inl x3), some (.inr (.inr r4)), some (.inr (.inr r5)), some (.inl x6), some (.inl x7), some (.inl x8), some (.inr (.inl x9)), none, some (.inl x11), some (.inl (ft_add x12 1)), none, none, none, none] [] h R) ∧ (¬ (h 287 x12.toNat < 0) → ((0 ≤ n1 ∧ n1 < (ft_ln r4)) ∧ ((0 ≤ h r4 n1.toNat → ((0 ≤ n1 ∧ n1 < (ft_ln r4)) ∧ ((0 ≤ x12 ∧ x12 < 61) ∧ (∀ n2 : Int, n2 = ft_add (h r4 n1.toNat) (h 287 x12.toNat) → ((0 ≤ n1 ∧ n1 < (ft_ln r5)) ∧ ((0 ≤ x12 ∧ x12 < 61) ∧ (∀ n3 : Int, n3 = ft_orL (h r5 n1.toNat) (h 288 x12.toNat) → ((¬ (x8 < n2 ∨ n2 = x8 ∧ x9 < n3) → ft_V k_Ch_join 73 [some (.inr (.inr 143)), none, none, some (.inl x3), some (.inr (.inr r4)), some (.inr (.inr r5)), some (.inl x6), some (.inl x7), some (.inl x8), some (.inr (.inl x9)), none, some (.inl x11), some (.inl (ft_add x12 1)), none, none, none, none] [] h R) ∧ (x8 < n2 ∨ n2 = x8 ∧ x9 < n3 → ft_V k_Ch_join 73 [some (.inr (.inr 143)), none, none, some (.inl x3), some (.inr (.inr r4)), some (.inr (.inr r5)), some (.inl x6), some (.inl x7), some (.inl n2), some (.inr (.inl n3)), none, some (.inl x11), some (.inl (ft_add x12 1)), none, none, none, none] [] h R))))))))) ∧ (¬ (0 ≤ h r4 n1.toNat) → ft_V k_Ch_join 73 [some (.inr (.inr 143)), none, none, some (.inl x3), some (.inr (.inr r4)), some (.inr (.inr r5)), some (.inl x6), some (.inl x7), some (.inl x8), some (.inr (.inl x9)), none, some (.inl x11), some (.inl (ft_add x12 1)), none, none, none, none] [] h R)))))))))) : ft_V k_Ch_join 73 [some (.inr (.inr 143)), none, none, some (.inl x3), some (.inr (.inr r4)), some (.inr (.inr r5)), some (.inl x6), some (.inl x7), some (.inl x8), some (.inr (.inl x9)), none, some (.inl x11), some (.inl x12), none, none, none, none] [] h R := by
  refine fv_iload (ft_d o_Ch_join 45 rfl) rfl rfl ?_
  refine fv_iload (ft_d o_Ch_join 46 rfl) rfl rfl ?_
  refine fv_icmp_gt (tgt := 166) (ft_d o_Ch_join 47 rfl) rfl rfl (fun c => ?_) (fun c => ?_)
  · have w := w.1 c
    refine fv_aload (ft_d o_Ch_join 92 rfl) rfl rfl ?_
    refine fv_iload (ft_d o_Ch_join 93 rfl) rfl rfl ?_
    refine fv_iload (ft_d o_Ch_join 94 rfl) rfl rfl ?_
    refine fv_iast (ft_d o_Ch_join 95 rfl) rfl hr4 w.1 ?_
    have w := w.2
    generalize eh1 : ft_hs h r4 x7.toNat x8 = h1
    have w := w h1 eh1.symm
    refine fv_aload (ft_d o_Ch_join 96 rfl) rfl rfl ?_
    refine fv_iload (ft_d o_Ch_join 97 rfl) rfl rfl ?_
    refine fv_lload (ft_d o_Ch_join 98 rfl) rfl rfl ?_
    refine fv_last (ft_d o_Ch_join 99 rfl) rfl hr5 w.1 ?_
    have w := w.2
    generalize eh2 : ft_hs h1 r5 x7.toNat x9 = h2
    have w := w h2 eh2.symm
    refine fv_iinc (L' := [some (.inr (.inr 143)), none, none, some (.inl x3), some (.inr (.inr r4)), some (.inr (.inr r5)), some (.inl x6), some (.inl (ft_add x7 (-1))), some (.inl x8), some (.inr (.inl x9)), none, some (.inl x11), some (.inl x12), none, none, none, none]) (ft_d o_Ch_join 100 rfl) rfl rfl (Nat.le_of_ble_eq_true rfl) rfl ?_
    refine fv_goto (pc' := 43) (ft_d o_Ch_join 101 rfl) rfl ?_
    refine fv_mask (M := [true, false, false, true, true, true, true, true, false, false, false, false, false, false, false, false, false]) rfl ?_
    exact w
  · have w := w.2 c
    refine fv_iload (ft_d o_Ch_join 48 rfl) rfl rfl ?_
    refine fv_iload (ft_d o_Ch_join 49 rfl) rfl rfl ?_
    refine fv_isub (ft_d o_Ch_join 50 rfl) rfl ?_
    generalize en1 : ft_sub x7 x12 = n1
    have w := w n1 en1.symm
    refine fv_istore (L' := [some (.inr (.inr 143)), none, none, some (.inl x3), some (.inr (.inr r4)), some (.inr (.inr r5)), some (.inl x6), some (.inl x7), some (.inl x8), some (.inr (.inl x9)), none, some (.inl x11), some (.inl x12), some (.inl n1), none, none, none]) (ft_d o_Ch_join 51 rfl) rfl (Nat.le_of_ble_eq_true rfl) rfl ?_
    refine fv_aload_n (ft_d o_Ch_join 52 rfl) rfl rfl ?_
    refine fv_getR (b := 287) (ft_d o_Ch_join 53 rfl) rfl fl_Ch_37 sh_143 rfl ly_143_7 ?_
    refine fv_iload (ft_d o_Ch_join 54 rfl) rfl rfl ?_
    refine fv_iald (ft_d o_Ch_join 55 rfl) rfl sh_287 w.1 ?_
    have w := w.2
    refine fv_if_lt (tgt := 160) (ft_d o_Ch_join 56 rfl) rfl rfl (fun c => ?_) (fun c => ?_)
    · have w := w.1 c
      refine fv_iinc (L' := [some (.inr (.inr 143)), none, none, some (.inl x3), some (.inr (.inr r4)), some (.inr (.inr r5)), some (.inl x6), some (.inl x7), some (.inl x8), some (.inr (.inl x9)), none, some (.inl x11), some (.inl (ft_add x12 1)), some (.inl n1), none, none, none]) (ft_d o_Ch_join 90 rfl) rfl rfl (Nat.le_of_ble_eq_true rfl) rfl ?_
      refine fv_goto (pc' := 73) (ft_d o_Ch_join 91 rfl) rfl ?_
      refine fv_mask (M := [true, false, false, true, true, true, true, true, true, true, false, true, true, false, false, false, false]) rfl ?_
      exact w
    · have w := w.2 c
      refine fv_aload (ft_d o_Ch_join 57 rfl) rfl rfl ?_
      refine fv_iload (ft_d o_Ch_join 58 rfl) rfl rfl ?_
      refine fv_iald (ft_d o_Ch_join 59 rfl) rfl hr4 w.1 ?_
      have w := w.2
      refine fv_if_ge (tgt := 108) (ft_d o_Ch_join 60 rfl) rfl rfl (fun c => ?_) (fun c => ?_)
      · have w := w.1 c
        refine fv_aload (ft_d o_Ch_join 62 rfl) rfl rfl ?_
        refine fv_iload (ft_d o_Ch_join 63 rfl) rfl rfl ?_
        refine fv_iald (ft_d o_Ch_join 64 rfl) rfl hr4 w.1 ?_
        have w := w.2
        refine fv_aload_n (ft_d o_Ch_join 65 rfl) rfl rfl ?_
        refine fv_getR (b := 287) (ft_d o_Ch_join 66 rfl) rfl fl_Ch_37 sh_143 rfl ly_143_7 ?_
        refine fv_iload (ft_d o_Ch_join 67 rfl) rfl rfl ?_
        refine fv_iald (ft_d o_Ch_join 68 rfl) rfl sh_287 w.1 ?_
        have w := w.2
        refine fv_iadd (ft_d o_Ch_join 69 rfl) rfl ?_
        generalize en2 : ft_add (h r4 n1.toNat) (h 287 x12.toNat) = n2
        have w := w n2 en2.symm
        refine fv_istore (L' := [some (.inr (.inr 143)), none, none, some (.inl x3), some (.inr (.inr r4)), some (.inr (.inr r5)), some (.inl x6), some (.inl x7), some (.inl x8), some (.inr (.inl x9)), none, some (.inl x11), some (.inl x12), some (.inl n1), some (.inl n2), none, none]) (ft_d o_Ch_join 70 rfl) rfl (Nat.le_of_ble_eq_true rfl) rfl ?_
        refine fv_aload (ft_d o_Ch_join 71 rfl) rfl rfl ?_
        refine fv_iload (ft_d o_Ch_join 72 rfl) rfl rfl ?_
        refine fv_lald (ft_d o_Ch_join 73 rfl) rfl hr5 w.1 ?_
        have w := w.2
        refine fv_aload_n (ft_d o_Ch_join 74 rfl) rfl rfl ?_
        refine fv_getR (b := 288) (ft_d o_Ch_join 75 rfl) rfl fl_Ch_40 sh_143 rfl ly_143_8 ?_
        refine fv_iload (ft_d o_Ch_join 76 rfl) rfl rfl ?_
        refine fv_lald (ft_d o_Ch_join 77 rfl) rfl sh_288 w.1 ?_
        have w := w.2
        refine fv_lor (ft_d o_Ch_join 78 rfl) rfl ?_
        generalize en3 : ft_orL (h r5 n1.toNat) (h 288 x12.toNat) = n3
        have w := w n3 en3.symm
        refine fv_lstore (L' := [some (.inr (.inr 143)), none, none, some (.inl x3), some (.inr (.inr r4)), some (.inr (.inr r5)), some (.inl x6), some (.inl x7), some (.inl x8), some (.inr (.inl x9)), none, some (.inl x11), some (.inl x12), some (.inl n1), some (.inl n2), some (.inr (.inl n3)), none]) (ft_d o_Ch_join 79 rfl) rfl (Nat.le_of_ble_eq_true rfl) rfl ?_
        refine fv_iload (ft_d o_Ch_join 80 rfl) rfl rfl ?_
        refine fv_lload (ft_d o_Ch_join 81 rfl) rfl rfl ?_
        refine fv_iload (ft_d o_Ch_join 82 rfl) rfl rfl ?_
        refine fv_lload (ft_d o_Ch_join 83 rfl) rfl rfl ?_
        refine fv_callif (st := []) (z := (if x8 < n2 ∨ n2 = x8 ∧ x9 < n3 then 1 else 0)) (Or.inr rfl) rfl (ft_mm (pre := [.inr (.inl x9), .inl x8, .inr (.inl n3), .inl n2]) rfl) (ft_rnS (K' := k_Ch_isBetter) (As := [.inl n2, .inr (.inl n3), .inl x8, .inr (.inl x9)]) (ft_d o_Ch_join 84 rfl) ml_Ch_89 lz_Ch_isBetter rfl lw_Ch_isBetter ⟨rfl, rfl, Nat.le_of_ble_eq_true rfl, Nat.le_of_ble_eq_true rfl⟩ rfl rfl (Nat.le_of_ble_eq_true rfl) (c_Ch_isBetter)) ?_
        refine fv_if_eq (tgt := 160) (ft_d o_Ch_join 85 rfl) rfl rfl (fun c => ?_) (fun c => ?_)
        · have w := w.1 (ft_if0.mp c)
          refine fv_iinc (L' := [some (.inr (.inr 143)), none, none, some (.inl x3), some (.inr (.inr r4)), some (.inr (.inr r5)), some (.inl x6), some (.inl x7), some (.inl x8), some (.inr (.inl x9)), none, some (.inl x11), some (.inl (ft_add x12 1)), some (.inl n1), some (.inl n2), some (.inr (.inl n3)), none]) (ft_d o_Ch_join 90 rfl) rfl rfl (Nat.le_of_ble_eq_true rfl) rfl ?_
          refine fv_goto (pc' := 73) (ft_d o_Ch_join 91 rfl) rfl ?_
          refine fv_mask (M := [true, false, false, true, true, true, true, true, true, true, false, true, true, false, false, false, false]) rfl ?_
          exact w
        · have w := w.2 (ft_if1.mp c)
          refine fv_iload (ft_d o_Ch_join 86 rfl) rfl rfl ?_
          refine fv_istore (L' := [some (.inr (.inr 143)), none, none, some (.inl x3), some (.inr (.inr r4)), some (.inr (.inr r5)), some (.inl x6), some (.inl x7), some (.inl n2), some (.inr (.inl x9)), none, some (.inl x11), some (.inl x12), some (.inl n1), some (.inl n2), some (.inr (.inl n3)), none]) (ft_d o_Ch_join 87 rfl) rfl (Nat.le_of_ble_eq_true rfl) rfl ?_
          refine fv_lload (ft_d o_Ch_join 88 rfl) rfl rfl ?_
          refine fv_lstore (L' := [some (.inr (.inr 143)), none, none, some (.inl x3), some (.inr (.inr r4)), some (.inr (.inr r5)), some (.inl x6), some (.inl x7), some (.inl n2), some (.inr (.inl n3)), none, some (.inl x11), some (.inl x12), some (.inl n1), some (.inl n2), some (.inr (.inl n3)), none]) (ft_d o_Ch_join 89 rfl) rfl (Nat.le_of_ble_eq_true rfl) rfl ?_
          refine fv_iinc (L' := [some (.inr (.inr 143)), none, none, some (.inl x3), some (.inr (.inr r4)), some (.inr (.inr r5)), some (.inl x6), some (.inl x7), some (.inl n2), some (.inr (.inl n3)), none, some (.inl x11), some (.inl (ft_add x12 1)), some (.inl n1), some (.inl n2), some (.inr (.inl n3)), none]) (ft_d o_Ch_join 90 rfl) rfl rfl (Nat.le_of_ble_eq_true rfl) rfl ?_
          refine fv_goto (pc' := 73) (ft_d o_Ch_join 91 rfl) rfl ?_
          refine fv_mask (M := [true, false, false, true, true, true, true, true, true, true, false, true, true, false, false, false, false]) rfl ?_
          exact w
      · have w := w.2 c
        refine fv_goto (pc' := 160) (ft_d o_Ch_join 61 rfl) rfl ?_
        refine fv_iinc (L' := [some (.inr (.inr 143)), none, none, some (.inl x3), some (.inr (.inr r4)), some (.inr (.inr r5)), some (.inl x6), some (.inl x7), some (.inl x8), some (.inr (.inl x9)), none, some (.inl x11), some (.inl (ft_add x12 1)), some (.inl n1), none, none, none]) (ft_d o_Ch_join 90 rfl) rfl rfl (Nat.le_of_ble_eq_true rfl) rfl ?_
        refine fv_goto (pc' := 73) (ft_d o_Ch_join 91 rfl) rfl ?_
        refine fv_mask (M := [true, false, false, true, true, true, true, true, true, true, false, true, true, false, false, false, false]) rfl ?_
        exact w
set_option maxRecDepth 20000 in
theorem b_Ch_placesWith_0 {x1 : Int} {h : ftH} {R : Option ftV → ftH → Prop} 
    (w : (∀ n1 : Int, n1 = min x1 (h 286 0) → ft_V k_Ch_placesWith 16 [some (.inr (.inr 143)), none, some (.inl 0), some (.inl n1), some (.inl 1)] [] h R)) : ft_V k_Ch_placesWith 0 [some (.inr (.inr 143)), some (.inl x1), none, none, none] [] h R := by
  refine fv_iconst (ft_d o_Ch_placesWith 0 rfl) rfl rfl ?_
  refine fv_istore_n (L' := [some (.inr (.inr 143)), some (.inl x1), some (.inl 0), none, none]) (ft_d o_Ch_placesWith 1 rfl) rfl (Nat.le_of_ble_eq_true rfl) rfl ?_
  refine fv_iload_n (ft_d o_Ch_placesWith 2 rfl) rfl rfl ?_
  refine fv_aload_n (ft_d o_Ch_placesWith 3 rfl) rfl rfl ?_
  refine fv_getR (b := 286) (ft_d o_Ch_placesWith 4 rfl) rfl fl_Ch_34 sh_143 rfl ly_143_6 ?_
  refine fv_iconst (ft_d o_Ch_placesWith 5 rfl) rfl rfl ?_
  refine fv_ialdj (j := 0) (ft_d o_Ch_placesWith 6 rfl) rfl sh_286 ⟨by decide, by decide⟩ rfl ?_
  refine fv_min (ft_d o_Ch_placesWith 7 rfl) rfl ml_Ch_72 (Nat.le_of_ble_eq_true rfl) (Nat.le_of_ble_eq_true rfl) (Nat.le_of_ble_eq_true rfl) ?_
  generalize en1 : min x1 (h 286 0) = n1
  have w := w n1 en1.symm
  refine fv_istore_n (L' := [some (.inr (.inr 143)), some (.inl x1), some (.inl 0), some (.inl n1), none]) (ft_d o_Ch_placesWith 8 rfl) rfl (Nat.le_of_ble_eq_true rfl) rfl ?_
  refine fv_iconst (ft_d o_Ch_placesWith 9 rfl) rfl rfl ?_
  refine fv_istore (L' := [some (.inr (.inr 143)), some (.inl x1), some (.inl 0), some (.inl n1), some (.inl 1)]) (ft_d o_Ch_placesWith 10 rfl) rfl (Nat.le_of_ble_eq_true rfl) rfl ?_
  refine fv_mask (M := [true, false, true, true, true]) rfl ?_
  exact w
set_option maxRecDepth 20000 in
theorem b_Ch_placesWith_16 {x2 : Int} {x3 : Int} {x4 : Int} {h : ftH} {R : Option ftV → ftH → Prop} 
    (w : ((x3 < x4 → R (some (.inl x2)) h) ∧ (¬ (x3 < x4) → ((0 ≤ (0 : Int) ∧ (0 : Int) < 68) ∧ ((0 ≤ x4 ∧ x4 < (ft_ln (149 + (0 : Int).toNat))) ∧ ((0 ≤ (0 : Int) ∧ (0 : Int) < 68) ∧ ((0 ≤ x2 ∧ x2 < (ft_ln (149 + (0 : Int).toNat))) ∧ ((h (149 + (0 : Int).toNat) x4.toNat ≤ h (149 + (0 : Int).toNat) x2.toNat → ft_V k_Ch_placesWith 16 [some (.inr (.inr 143)), none, some (.inl x2), some (.inl x3), some (.inl (ft_add x4 1))] [] h R) ∧ (¬ (h (149 + (0 : Int).toNat) x4.toNat ≤ h (149 + (0 : Int).toNat) x2.toNat) → ft_V k_Ch_placesWith 16 [some (.inr (.inr 143)), none, some (.inl x4), some (.inl x3), some (.inl (ft_add x4 1))] [] h R))))))))) : ft_V k_Ch_placesWith 16 [some (.inr (.inr 143)), none, some (.inl x2), some (.inl x3), some (.inl x4)] [] h R := by
  refine fv_iload (ft_d o_Ch_placesWith 11 rfl) rfl rfl ?_
  refine fv_iload_n (ft_d o_Ch_placesWith 12 rfl) rfl rfl ?_
  refine fv_icmp_gt (tgt := 51) (ft_d o_Ch_placesWith 13 rfl) rfl rfl (fun c => ?_) (fun c => ?_)
  · have w := w.1 c
    refine fv_iload_n (ft_d o_Ch_placesWith 31 rfl) rfl rfl ?_
    exact fv_ireturn (ft_d o_Ch_placesWith 32 rfl) rfl w
  · have w := w.2 c
    refine fv_aload_n (ft_d o_Ch_placesWith 14 rfl) rfl rfl ?_
    refine fv_getR (b := 148) (ft_d o_Ch_placesWith 15 rfl) rfl fl_Ch_26 sh_143 rfl ly_143_4 ?_
    refine fv_iconst (ft_d o_Ch_placesWith 16 rfl) rfl rfl ?_
    have b1 := w.1
    have w := w.2
    refine fv_aald (b := 149 + (0 : Int).toNat) (ft_d o_Ch_placesWith 17 rfl) rfl sh_148 (Or.inr (Or.inl rfl)) b1 (lya_148 b1) ?_
    refine fv_iload (ft_d o_Ch_placesWith 18 rfl) rfl rfl ?_
    refine fv_iald (ft_d o_Ch_placesWith 19 rfl) rfl (sha_148 b1) w.1 ?_
    have w := w.2
    refine fv_aload_n (ft_d o_Ch_placesWith 20 rfl) rfl rfl ?_
    refine fv_getR (b := 148) (ft_d o_Ch_placesWith 21 rfl) rfl fl_Ch_26 sh_143 rfl ly_143_4 ?_
    refine fv_iconst (ft_d o_Ch_placesWith 22 rfl) rfl rfl ?_
    have b2 := w.1
    have w := w.2
    refine fv_aald (b := 149 + (0 : Int).toNat) (ft_d o_Ch_placesWith 23 rfl) rfl sh_148 (Or.inr (Or.inl rfl)) b2 (lya_148 b2) ?_
    refine fv_iload_n (ft_d o_Ch_placesWith 24 rfl) rfl rfl ?_
    refine fv_iald (ft_d o_Ch_placesWith 25 rfl) rfl (sha_148 b2) w.1 ?_
    have w := w.2
    refine fv_icmp_le (tgt := 45) (ft_d o_Ch_placesWith 26 rfl) rfl rfl (fun c => ?_) (fun c => ?_)
    · have w := w.1 c
      refine fv_iinc (L' := [some (.inr (.inr 143)), none, some (.inl x2), some (.inl x3), some (.inl (ft_add x4 1))]) (ft_d o_Ch_placesWith 29 rfl) rfl rfl (Nat.le_of_ble_eq_true rfl) rfl ?_
      refine fv_goto (pc' := 16) (ft_d o_Ch_placesWith 30 rfl) rfl ?_
      exact w
    · have w := w.2 c
      refine fv_iload (ft_d o_Ch_placesWith 27 rfl) rfl rfl ?_
      refine fv_istore_n (L' := [some (.inr (.inr 143)), none, some (.inl x4), some (.inl x3), some (.inl x4)]) (ft_d o_Ch_placesWith 28 rfl) rfl (Nat.le_of_ble_eq_true rfl) rfl ?_
      refine fv_iinc (L' := [some (.inr (.inr 143)), none, some (.inl x4), some (.inl x3), some (.inl (ft_add x4 1))]) (ft_d o_Ch_placesWith 29 rfl) rfl rfl (Nat.le_of_ble_eq_true rfl) rfl ?_
      refine fv_goto (pc' := 16) (ft_d o_Ch_placesWith 30 rfl) rfl ?_
      exact w
set_option maxRecDepth 20000 in
theorem b_Ch_lostWith_0 {x1 : Int} {h : ftH} {R : Option ftV → ftH → Prop} 
    (w : ((0 ≤ (0 : Int) ∧ (0 : Int) < 68) ∧ (∃ R2 : Option ftV → ftH → Prop, ft_C k_Ch_placesWith [.inr (.inr 143), .inl x1] h R2 ∧ ∀ (z4 : Int) (h1 : ftH), ft_in z4 → R2 (some (.inl z4)) h1 → ((0 ≤ z4 ∧ z4 < (ft_ln (149 + (0 : Int).toNat))) ∧ R (some (.inl (ft_sub (h 143 2) (h1 (149 + (0 : Int).toNat) z4.toNat)))) h1)))) : ft_V k_Ch_lostWith 0 [some (.inr (.inr 143)), some (.inl x1)] [] h R := by
  refine fv_aload_n (ft_d o_Ch_lostWith 0 rfl) rfl rfl ?_
  refine fv_getI (ft_d o_Ch_lostWith 1 rfl) rfl fl_Ch_48 sh_143 rfl ?_
  refine fv_aload_n (ft_d o_Ch_lostWith 2 rfl) rfl rfl ?_
  refine fv_getR (b := 148) (ft_d o_Ch_lostWith 3 rfl) rfl fl_Ch_26 sh_143 rfl ly_143_4 ?_
  refine fv_iconst (ft_d o_Ch_lostWith 4 rfl) rfl rfl ?_
  have b1 := w.1
  have w := w.2
  refine fv_aald (b := 149 + (0 : Int).toNat) (ft_d o_Ch_lostWith 5 rfl) rfl sh_148 (Or.inr (Or.inl rfl)) b1 (lya_148 b1) ?_
  refine fv_aload_n (ft_d o_Ch_lostWith 6 rfl) rfl rfl ?_
  refine fv_iload_n (ft_d o_Ch_lostWith 7 rfl) rfl rfl ?_
  obtain ⟨R2, c3, w⟩ := w
  refine fv_calli (st := [.inr (.inr (149 + (0 : Int).toNat)), .inl (h 143 2)]) (Or.inl rfl) rfl (ft_mm (pre := [.inl x1, .inr (.inr 143)]) rfl) (ft_rnV (K' := k_Ch_placesWith) (As := [.inl x1]) (ft_d o_Ch_lostWith 8 rfl) ml_Ch_96 li_Ch_placesWith.1 li_Ch_placesWith.2 lw_Ch_placesWith ⟨rfl, rfl, Nat.le_of_ble_eq_true rfl, Nat.le_of_ble_eq_true rfl⟩ sh_143 rfl rfl rfl rfl (Nat.le_of_ble_eq_true rfl) c3) (fun z4 h1 hz hw => ?_)
  have w := w z4 h1 hz hw
  refine fv_iald (ft_d o_Ch_lostWith 9 rfl) rfl (sha_148 b1) w.1 ?_
  have w := w.2
  refine fv_isub (ft_d o_Ch_lostWith 10 rfl) rfl ?_
  exact fv_ireturn (ft_d o_Ch_lostWith 11 rfl) rfl w
set_option maxRecDepth 20000 in
theorem b_Ch_choose_0 {r1 : Nat} {r2 : Nat} {x3 : Int} {h : ftH} {R : Option ftV → ftH → Prop} (hr1 : ft_sh r1 = some (.inl 4)) (hr2 : ft_sh r2 = some (.inl 2))
    (w : ((0 ≤ (0 : Int) ∧ (0 : Int) < 68) ∧ (∃ R2 : Option ftV → ftH → Prop, ft_C k_Ch_placesWith [.inr (.inr 143), .inl x3] h R2 ∧ ∀ (z4 : Int) (h1 : ftH), ft_in z4 → R2 (some (.inl z4)) h1 → ((0 ≤ z4 ∧ z4 < (ft_ln (218 + (0 : Int).toNat))) ∧ (∀ h2 : ftH, h2 = ft_hs h1 143 3 (h1 (218 + (0 : Int).toNat) z4.toNat) → (∀ h3 : ftH, h3 = ft_hs h2 145 2 0 → ft_V k_Ch_choose 27 [some (.inr (.inr 143)), some (.inr (.inr r1)), some (.inr (.inr r2)), none, some (.inl 0), none] [] h3 R)))))) : ft_V k_Ch_choose 0 [some (.inr (.inr 143)), some (.inr (.inr r1)), some (.inr (.inr r2)), some (.inl x3), none, none] [] h R := by
  refine fv_aload_n (ft_d o_Ch_choose 0 rfl) rfl rfl ?_
  refine fv_aload_n (ft_d o_Ch_choose 1 rfl) rfl rfl ?_
  refine fv_getR (b := 217) (ft_d o_Ch_choose 2 rfl) rfl fl_Ch_31 sh_143 rfl ly_143_5 ?_
  refine fv_iconst (ft_d o_Ch_choose 3 rfl) rfl rfl ?_
  have b1 := w.1
  have w := w.2
  refine fv_aald (b := 218 + (0 : Int).toNat) (ft_d o_Ch_choose 4 rfl) rfl sh_217 (Or.inr (Or.inr rfl)) b1 (lya_217 b1) ?_
  refine fv_aload_n (ft_d o_Ch_choose 5 rfl) rfl rfl ?_
  refine fv_iload_n (ft_d o_Ch_choose 6 rfl) rfl rfl ?_
  obtain ⟨R2, c3, w⟩ := w
  refine fv_calli (st := [.inr (.inr (218 + (0 : Int).toNat)), .inr (.inr 143)]) (Or.inl rfl) rfl (ft_mm (pre := [.inl x3, .inr (.inr 143)]) rfl) (ft_rnV (K' := k_Ch_placesWith) (As := [.inl x3]) (ft_d o_Ch_choose 7 rfl) ml_Ch_96 li_Ch_placesWith.1 li_Ch_placesWith.2 lw_Ch_placesWith ⟨rfl, rfl, Nat.le_of_ble_eq_true rfl, Nat.le_of_ble_eq_true rfl⟩ sh_143 rfl rfl rfl rfl (Nat.le_of_ble_eq_true rfl) c3) (fun z4 h1 hz hw => ?_)
  have w := w z4 h1 hz hw
  refine fv_lald (ft_d o_Ch_choose 8 rfl) rfl (sha_217 b1) w.1 ?_
  have w := w.2
  refine fv_putL (ft_d o_Ch_choose 9 rfl) rfl fl_Ch_100 rfl rfl sh_143 rfl ?_
  generalize eh2 : ft_hs h1 143 3 (h1 (218 + (0 : Int).toNat) z4.toNat) = h2
  have w := w h2 eh2.symm
  refine fv_aload_n (ft_d o_Ch_choose 10 rfl) rfl rfl ?_
  refine fv_getR (b := 145) (ft_d o_Ch_choose 11 rfl) rfl fl_Ch_20 sh_143 rfl ly_143_1 ?_
  refine fv_iconst (ft_d o_Ch_choose 12 rfl) rfl rfl ?_
  refine fv_putI (ft_d o_Ch_choose 13 rfl) rfl fl_Ch_44 rfl rfl sh_145 rfl ?_
  generalize eh3 : ft_hs h2 145 2 0 = h3
  have w := w h3 eh3.symm
  refine fv_iconst (ft_d o_Ch_choose 14 rfl) rfl rfl ?_
  refine fv_istore (L' := [some (.inr (.inr 143)), some (.inr (.inr r1)), some (.inr (.inr r2)), some (.inl x3), some (.inl 0), none]) (ft_d o_Ch_choose 15 rfl) rfl (Nat.le_of_ble_eq_true rfl) rfl ?_
  refine fv_mask (M := [true, true, true, false, true, false]) rfl ?_
  exact w
set_option maxRecDepth 20000 in
theorem b_Ch_choose_27 {r1 : Nat} {r2 : Nat} {x4 : Int} {h : ftH} {R : Option ftV → ftH → Prop} (hr1 : ft_sh r1 = some (.inl 4)) (hr2 : ft_sh r2 = some (.inl 2))
    (w : ((h r1 2 ≤ x4 → R none h) ∧ (¬ (h r1 2 ≤ x4) → ((0 ≤ x4 ∧ x4 < (ft_ln (r2 + 2))) ∧ (∀ n1 : Int, n1 = h (r2 + 2) x4.toNat → (((0 ≤ x4 ∧ x4 < 60) ∧ 0 ≤ h 143 3) ∧ ((¬ (h 143 3 / 2 ^ (59 - x4.toNat) % 2 = 1) → ((n1 < 0 → ft_V k_Ch_choose 27 [some (.inr (.inr 143)), some (.inr (.inr r1)), some (.inr (.inr r2)), none, some (.inl (ft_add x4 1)), none] [] h R) ∧ (¬ (n1 < 0) → (((0 ≤ n1 ∧ n1 < 60) ∧ 0 ≤ h 143 3) ∧ ((¬ (h 143 3 / 2 ^ (59 - n1.toNat) % 2 = 1) → ft_V k_Ch_choose 27 [some (.inr (.inr 143)), some (.inr (.inr r1)), some (.inr (.inr r2)), none, some (.inl (ft_add x4 1)), none] [] h R) ∧ (h 143 3 / 2 ^ (59 - n1.toNat) % 2 = 1 → ((0 ≤ x4 ∧ x4 < (ft_ln (r1 + 1))) ∧ (∃ R6 : Option ftV → ftH → Prop, ft_C k_PS_put [.inr (.inr 145), .inr (.inl (h (r1 + 1) x4.toNat)), .inl 16] h R6 ∧ ∀ h1 : ftH, R6 none h1 → ft_V k_Ch_choose 27 [some (.inr (.inr 143)), some (.inr (.inr r1)), some (.inr (.inr r2)), none, some (.inl (ft_add x4 1)), none] [] h1 R)))))))) ∧ (h 143 3 / 2 ^ (59 - x4.toNat) % 2 = 1 → ((0 ≤ x4 ∧ x4 < (ft_ln (r1 + 1))) ∧ ((0 ≤ x4 ∧ x4 < (ft_ln (r1 + 2))) ∧ (∃ R8 : Option ftV → ftH → Prop, ft_C k_PS_put [.inr (.inr 145), .inr (.inl (h (r1 + 1) x4.toNat)), .inl (h (r1 + 2) x4.toNat)] h R8 ∧ ∀ h2 : ftH, R8 none h2 → ft_V k_Ch_choose 27 [some (.inr (.inr 143)), some (.inr (.inr r1)), some (.inr (.inr r2)), none, some (.inl (ft_add x4 1)), none] [] h2 R))))))))))) : ft_V k_Ch_choose 27 [some (.inr (.inr 143)), some (.inr (.inr r1)), some (.inr (.inr r2)), none, some (.inl x4), none] [] h R := by
  refine fv_iload (ft_d o_Ch_choose 16 rfl) rfl rfl ?_
  refine fv_aload_n (ft_d o_Ch_choose 17 rfl) rfl rfl ?_
  refine fv_getI (ft_d o_Ch_choose 18 rfl) rfl fl_Ch_44 hr1 rfl ?_
  refine fv_icmp_ge (tgt := 114) (ft_d o_Ch_choose 19 rfl) rfl rfl (fun c => ?_) (fun c => ?_)
  · have w := w.1 c
    exact fv_return (ft_d o_Ch_choose 57 rfl) rfl w
  · have w := w.2 c
    refine fv_aload_n (ft_d o_Ch_choose 20 rfl) rfl rfl ?_
    refine fv_getR (b := r2 + 2) (ft_d o_Ch_choose 21 rfl) rfl fl_Ch_104 hr2 rfl (lyc_2_0 hr2) ?_
    refine fv_iload (ft_d o_Ch_choose 22 rfl) rfl rfl ?_
    refine fv_iald (ft_d o_Ch_choose 23 rfl) rfl (shc_2_0 hr2) w.1 ?_
    have w := w.2
    generalize en1 : h (r2 + 2) x4.toNat = n1
    have w := w n1 en1.symm
    refine fv_istore (L' := [some (.inr (.inr 143)), some (.inr (.inr r1)), some (.inr (.inr r2)), none, some (.inl x4), some (.inl n1)]) (ft_d o_Ch_choose 24 rfl) rfl (Nat.le_of_ble_eq_true rfl) rfl ?_
    refine fv_aload_n (ft_d o_Ch_choose 25 rfl) rfl rfl ?_
    refine fv_iload (ft_d o_Ch_choose 26 rfl) rfl rfl ?_
    refine fv_callif (st := []) (z := (if h 143 3 / 2 ^ (59 - x4.toNat) % 2 = 1 then 1 else 0)) (Or.inr rfl) rfl (ft_mm (pre := [.inl x4, .inr (.inr 143)]) rfl) (ft_rnV (K' := k_Ch_isKept) (As := [.inl x4]) (ft_d o_Ch_choose 27 rfl) ml_Ch_107 li_Ch_isKept.1 li_Ch_isKept.2 lw_Ch_isKept ⟨rfl, rfl, Nat.le_of_ble_eq_true rfl, Nat.le_of_ble_eq_true rfl⟩ sh_143 rfl rfl rfl rfl (Nat.le_of_ble_eq_true rfl) (c_Ch_isKept w.1)) ?_
    have w := w.2
    refine fv_if_eq (tgt := 78) (ft_d o_Ch_choose 28 rfl) rfl rfl (fun c => ?_) (fun c => ?_)
    · have w := w.1 (ft_if0.mp c)
      refine fv_iload (ft_d o_Ch_choose 41 rfl) rfl rfl ?_
      refine fv_if_lt (tgt := 108) (ft_d o_Ch_choose 42 rfl) rfl rfl (fun c => ?_) (fun c => ?_)
      · have w := w.1 c
        refine fv_iinc (L' := [some (.inr (.inr 143)), some (.inr (.inr r1)), some (.inr (.inr r2)), none, some (.inl (ft_add x4 1)), some (.inl n1)]) (ft_d o_Ch_choose 55 rfl) rfl rfl (Nat.le_of_ble_eq_true rfl) rfl ?_
        refine fv_goto (pc' := 27) (ft_d o_Ch_choose 56 rfl) rfl ?_
        refine fv_mask (M := [true, true, true, false, true, false]) rfl ?_
        exact w
      · have w := w.2 c
        refine fv_aload_n (ft_d o_Ch_choose 43 rfl) rfl rfl ?_
        refine fv_iload (ft_d o_Ch_choose 44 rfl) rfl rfl ?_
        refine fv_callif (st := []) (z := (if h 143 3 / 2 ^ (59 - n1.toNat) % 2 = 1 then 1 else 0)) (Or.inr rfl) rfl (ft_mm (pre := [.inl n1, .inr (.inr 143)]) rfl) (ft_rnV (K' := k_Ch_isKept) (As := [.inl n1]) (ft_d o_Ch_choose 45 rfl) ml_Ch_107 li_Ch_isKept.1 li_Ch_isKept.2 lw_Ch_isKept ⟨rfl, rfl, Nat.le_of_ble_eq_true rfl, Nat.le_of_ble_eq_true rfl⟩ sh_143 rfl rfl rfl rfl (Nat.le_of_ble_eq_true rfl) (c_Ch_isKept w.1)) ?_
        have w := w.2
        refine fv_if_eq (tgt := 108) (ft_d o_Ch_choose 46 rfl) rfl rfl (fun c => ?_) (fun c => ?_)
        · have w := w.1 (ft_if0.mp c)
          refine fv_iinc (L' := [some (.inr (.inr 143)), some (.inr (.inr r1)), some (.inr (.inr r2)), none, some (.inl (ft_add x4 1)), some (.inl n1)]) (ft_d o_Ch_choose 55 rfl) rfl rfl (Nat.le_of_ble_eq_true rfl) rfl ?_
          refine fv_goto (pc' := 27) (ft_d o_Ch_choose 56 rfl) rfl ?_
          refine fv_mask (M := [true, true, true, false, true, false]) rfl ?_
          exact w
        · have w := w.2 (ft_if1.mp c)
          refine fv_aload_n (ft_d o_Ch_choose 47 rfl) rfl rfl ?_
          refine fv_getR (b := 145) (ft_d o_Ch_choose 48 rfl) rfl fl_Ch_20 sh_143 rfl ly_143_1 ?_
          refine fv_aload_n (ft_d o_Ch_choose 49 rfl) rfl rfl ?_
          refine fv_getR (b := r1 + 1) (ft_d o_Ch_choose 50 rfl) rfl fl_Ch_111 hr1 rfl (lyc_4_0 hr1) ?_
          refine fv_iload (ft_d o_Ch_choose 51 rfl) rfl rfl ?_
          refine fv_lald (ft_d o_Ch_choose 52 rfl) rfl (shc_4_0 hr1) w.1 ?_
          have w := w.2
          refine fv_bipush (ft_d o_Ch_choose 53 rfl) rfl rfl ?_
          obtain ⟨R6, c7, w⟩ := w
          refine fv_callv (st := []) rfl rfl (ft_mm (pre := [.inl 16, .inr (.inl (h (r1 + 1) x4.toNat)), .inr (.inr 145)]) rfl) (ft_rnV (K' := k_PS_put) (As := [.inr (.inl (h (r1 + 1) x4.toNat)), .inl 16]) (ft_d o_Ch_choose 54 rfl) ml_Ch_117 li_PS_put.1 li_PS_put.2 lw_PS_put ⟨rfl, rfl, Nat.le_of_ble_eq_true rfl, Nat.le_of_ble_eq_true rfl⟩ sh_145 rfl rfl rfl rfl (Nat.le_of_ble_eq_true rfl) c7) (fun h1 hw => ?_)
          have w := w h1 hw
          refine fv_iinc (L' := [some (.inr (.inr 143)), some (.inr (.inr r1)), some (.inr (.inr r2)), none, some (.inl (ft_add x4 1)), some (.inl n1)]) (ft_d o_Ch_choose 55 rfl) rfl rfl (Nat.le_of_ble_eq_true rfl) rfl ?_
          refine fv_goto (pc' := 27) (ft_d o_Ch_choose 56 rfl) rfl ?_
          refine fv_mask (M := [true, true, true, false, true, false]) rfl ?_
          exact w
    · have w := w.2 (ft_if1.mp c)
      refine fv_aload_n (ft_d o_Ch_choose 29 rfl) rfl rfl ?_
      refine fv_getR (b := 145) (ft_d o_Ch_choose 30 rfl) rfl fl_Ch_20 sh_143 rfl ly_143_1 ?_
      refine fv_aload_n (ft_d o_Ch_choose 31 rfl) rfl rfl ?_
      refine fv_getR (b := r1 + 1) (ft_d o_Ch_choose 32 rfl) rfl fl_Ch_111 hr1 rfl (lyc_4_0 hr1) ?_
      refine fv_iload (ft_d o_Ch_choose 33 rfl) rfl rfl ?_
      refine fv_lald (ft_d o_Ch_choose 34 rfl) rfl (shc_4_0 hr1) w.1 ?_
      have w := w.2
      refine fv_aload_n (ft_d o_Ch_choose 35 rfl) rfl rfl ?_
      refine fv_getR (b := r1 + 2) (ft_d o_Ch_choose 36 rfl) rfl fl_Ch_114 hr1 rfl (lyc_4_1 hr1) ?_
      refine fv_iload (ft_d o_Ch_choose 37 rfl) rfl rfl ?_
      refine fv_iald (ft_d o_Ch_choose 38 rfl) rfl (shc_4_1 hr1) w.1 ?_
      have w := w.2
      obtain ⟨R8, c9, w⟩ := w
      refine fv_callv (st := []) rfl rfl (ft_mm (pre := [.inl (h (r1 + 2) x4.toNat), .inr (.inl (h (r1 + 1) x4.toNat)), .inr (.inr 145)]) rfl) (ft_rnV (K' := k_PS_put) (As := [.inr (.inl (h (r1 + 1) x4.toNat)), .inl (h (r1 + 2) x4.toNat)]) (ft_d o_Ch_choose 39 rfl) ml_Ch_117 li_PS_put.1 li_PS_put.2 lw_PS_put ⟨rfl, rfl, Nat.le_of_ble_eq_true rfl, Nat.le_of_ble_eq_true rfl⟩ sh_145 rfl rfl rfl rfl (Nat.le_of_ble_eq_true rfl) c9) (fun h2 hw => ?_)
      have w := w h2 hw
      refine fv_goto (pc' := 108) (ft_d o_Ch_choose 40 rfl) rfl ?_
      refine fv_iinc (L' := [some (.inr (.inr 143)), some (.inr (.inr r1)), some (.inr (.inr r2)), none, some (.inl (ft_add x4 1)), some (.inl n1)]) (ft_d o_Ch_choose 55 rfl) rfl rfl (Nat.le_of_ble_eq_true rfl) rfl ?_
      refine fv_goto (pc' := 27) (ft_d o_Ch_choose 56 rfl) rfl ?_
      refine fv_mask (M := [true, true, true, false, true, false]) rfl ?_
      exact w
