/-! printed by wip/whole/gen/gen9n.py: the law's cases -/
theorem mG_fr {h h' : ftH} {G : gS} (f : ∀ k, 309 ≤ k → h' k = h k) (hG : mG h G) : mG h' G := by
  refine ⟨mcI_fr hG.1 (f 310 (by omega)) (f 311 (by omega)) (by rw [f 309 (by omega)]), ?_, tpM_fr (by rw [f 309 (by omega)]) (f 330 (by omega)) hG.2.2.1, wds_fr (f 331 (by omega)) hG.2.2.2.1, by rw [f 309 (by omega)]; exact hG.2.2.2.2⟩
  rcases hG.2.1 with q | q
  · exact Or.inl (by rw [f 309 (by omega)]; exact q)
  · exact Or.inr ⟨enI_fr q.1 (by rw [f 309 (by omega)]) (f 318 (by omega)) (f 319 (by omega)) (f 320 (by omega)), fun i hi => by rw [f 321 (by omega), f 322 (by omega), f 325 (by omega)]; exact q.2.1 i hi, by rw [f 309 (by omega)]; exact q.2.2⟩
theorem cG_fr {h h' : ftH} {G : gS} (f : ∀ k, k < 309 → h' k = h k) (hG : cG h G) : cG h' G := ⟨ccI_fr hG.1 (fun k k1 k2 => f k (by omega)), csI_fr (fun k k1 k2 => f k (by omega)) (by rw [f 0 (by omega)]) hG.2.1, rcI_fr (f 294 (by omega)) (f 295 (by omega)) hG.2.2.1, tpC_fr (f 113 (by omega)) (f 114 (by omega)) hG.2.2.2.1, by rw [f 0 (by omega)]; exact hG.2.2.2.2⟩
def lK (L : Nat) (xs : Nat → Int32) (pc i : Nat) (B : Int) : Prop := ∀ (h : ftH) (G : gS), gB B G → cG h G → mG h G → lV L xs pc i [] h
theorem som_inj {x : Int} {a : ftV} (h : some (Sum.inl x) = some a) : a = .inl x := (Option.some.inj h).symm
theorem som_injL {x : Int} {a : ftV} (h : some (Sum.inr (Sum.inl x)) = some a) : a = .inr (.inl x) := (Option.some.inj h).symm
theorem inl_inj {x y : Int} (h : (Sum.inl x : ftV) = .inl y) : x = y := Sum.inl.inj h
theorem inr_inj {x y : Int} (h : (Sum.inr (Sum.inl x) : ftV) = .inr (.inl y)) : x = y := Sum.inl.inj (Sum.inr.inj h)
theorem sh_0a : ft_sh 0 = some (.inl 10) := by decide +kernel
theorem sh_309a : ft_sh 309 = some (.inl 11) := by decide +kernel
theorem la_0 {L : Nat} {xs : Nat → Int32} {i : Nat} {B : Int} (hL : L ≤ 3072) (hi : i + 6 ≤ L) (hB0 : 0 ≤ B) (hB : B ≤ 900000000) (k : lK L xs 1318 i (B + 20000)) : lK L xs 248 i B := by
  intro h G hb hG hM
  refine l_x (ft_d o_La_c0 0 rfl) rfl ?_
  refine l_arg 1 (ft_d o_La_c0 1 rfl) (ft_d o_La_c0 2 rfl) (ft_d o_La_c0 3 rfl) (ft_d o_La_c0 4 rfl) (ft_d o_La_c0 5 rfl) rfl rfl (Nat.le_of_ble_eq_true rfl) hL hi ?_
  refine l_arg 2 (ft_d o_La_c0 6 rfl) (ft_d o_La_c0 7 rfl) (ft_d o_La_c0 8 rfl) (ft_d o_La_c0 9 rfl) (ft_d o_La_c0 10 rfl) rfl rfl (Nat.le_of_ble_eq_true rfl) hL hi ?_
  refine l_arg 3 (ft_d o_La_c0 11 rfl) (ft_d o_La_c0 12 rfl) (ft_d o_La_c0 13 rfl) (ft_d o_La_c0 14 rfl) (ft_d o_La_c0 15 rfl) rfl rfl (Nat.le_of_ble_eq_true rfl) hL hi ?_
  refine l_arg 4 (ft_d o_La_c0 16 rfl) (ft_d o_La_c0 17 rfl) (ft_d o_La_c0 18 rfl) (ft_d o_La_c0 19 rfl) (ft_d o_La_c0 20 rfl) rfl rfl (Nat.le_of_ble_eq_true rfl) hL hi ?_
  refine l_arg 5 (ft_d o_La_c0 21 rfl) (ft_d o_La_c0 22 rfl) (ft_d o_La_c0 23 rfl) (ft_d o_La_c0 24 rfl) (ft_d o_La_c0 25 rfl) rfl rfl (Nat.le_of_ble_eq_true rfl) hL hi ?_
  refine l_callI (K' := k_FT_append) (b0 := 0) (As := [.inl (xs (i + 1)).toInt, .inl (xs (i + 2)).toInt, .inl (xs (i + 3)).toInt, .inl (xs (i + 4)).toInt, .inl (xs (i + 5)).toInt]) (ft_d o_La_c0 26 rfl) rfl ml_La_13 li_FT_append lw_FT_append ⟨rfl, rfl, (Nat.le_of_ble_eq_true rfl), (Nat.le_of_ble_eq_true rfl)⟩ (Or.inl rfl) sh_0a (ck_10).1 rfl rfl rfl (Nat.le_of_ble_eq_true rfl) (cS_append h G B hB hb hG) ?_
  intro z h1 w
  obtain ⟨f1, a1, G1, e1, r1, g1⟩ := w
  refine l_m (ft_d o_La_c0 27 rfl) rfl ?_
  refine l_arg 1 (ft_d o_La_c0 28 rfl) (ft_d o_La_c0 29 rfl) (ft_d o_La_c0 30 rfl) (ft_d o_La_c0 31 rfl) (ft_d o_La_c0 32 rfl) rfl rfl (Nat.le_of_ble_eq_true rfl) hL hi ?_
  refine l_arg 2 (ft_d o_La_c0 33 rfl) (ft_d o_La_c0 34 rfl) (ft_d o_La_c0 35 rfl) (ft_d o_La_c0 36 rfl) (ft_d o_La_c0 37 rfl) rfl rfl (Nat.le_of_ble_eq_true rfl) hL hi ?_
  refine l_arg 3 (ft_d o_La_c0 38 rfl) (ft_d o_La_c0 39 rfl) (ft_d o_La_c0 40 rfl) (ft_d o_La_c0 41 rfl) (ft_d o_La_c0 42 rfl) rfl rfl (Nat.le_of_ble_eq_true rfl) hL hi ?_
  refine l_arg 4 (ft_d o_La_c0 43 rfl) (ft_d o_La_c0 44 rfl) (ft_d o_La_c0 45 rfl) (ft_d o_La_c0 46 rfl) (ft_d o_La_c0 47 rfl) rfl rfl (Nat.le_of_ble_eq_true rfl) hL hi ?_
  refine l_arg 5 (ft_d o_La_c0 48 rfl) (ft_d o_La_c0 49 rfl) (ft_d o_La_c0 50 rfl) (ft_d o_La_c0 51 rfl) (ft_d o_La_c0 52 rfl) rfl rfl (Nat.le_of_ble_eq_true rfl) hL hi ?_
  refine l_callI (K' := k_Mo_append) (b0 := 309) (As := [.inl (xs (i + 1)).toInt, .inl (xs (i + 2)).toInt, .inl (xs (i + 3)).toInt, .inl (xs (i + 4)).toInt, .inl (xs (i + 5)).toInt]) (ft_d o_La_c0 53 rfl) rfl ml_La_17 li_Mo_append lw_Mo_append ⟨rfl, rfl, (Nat.le_of_ble_eq_true rfl), (Nat.le_of_ble_eq_true rfl)⟩ (Or.inl rfl) sh_309a (ck_11).1 rfl rfl rfl (Nat.le_of_ble_eq_true rfl) (mS_append (ft_in_of _) (ft_in_of _) (ft_in_of _) (ft_in_of _) (ft_in_of _) h1 G B hB hb (mG_fr f1 hM)) ?_
  intro z2 h2 w2
  obtain ⟨f2, a2, G2, e2, r2, g2⟩ := w2
  obtain ⟨ea, eG⟩ := fn_tR G a1 G1 a2 G2 r1 r2
  have hz : z = z2 := inl_inj ((som_inj e1).symm.trans (ea.trans (som_inj e2)))
  refine l_eqI (ft_d o_La_c0 54 rfl) rfl hz ?_
  exact k h2 G2 (bd_tR B G a2 G2 hB0 hb r2) (cG_fr f2 (eG ▸ g1)) g2
theorem la_1 {L : Nat} {xs : Nat → Int32} {i : Nat} {B : Int} (hL : L ≤ 3072) (hi : i + 6 ≤ L) (hB0 : 0 ≤ B) (hB : B ≤ 900000000) (k : lK L xs 1318 i (B + 20000)) : lK L xs 311 i B := by
  intro h G hb hG hM
  refine l_x (ft_d o_La_c1 0 rfl) rfl ?_
  refine l_arg 1 (ft_d o_La_c1 1 rfl) (ft_d o_La_c1 2 rfl) (ft_d o_La_c1 3 rfl) (ft_d o_La_c1 4 rfl) (ft_d o_La_c1 5 rfl) rfl rfl (Nat.le_of_ble_eq_true rfl) hL hi ?_
  refine l_callI (K' := k_FT_truncate) (b0 := 0) (As := [.inl (xs (i + 1)).toInt]) (ft_d o_La_c1 6 rfl) rfl ml_La_18 li_FT_truncate lw_FT_truncate ⟨rfl, rfl, (Nat.le_of_ble_eq_true rfl), (Nat.le_of_ble_eq_true rfl)⟩ (Or.inl rfl) sh_0a (ck_10).1 rfl rfl rfl (Nat.le_of_ble_eq_true rfl) (cS_truncate h G B hB hb hG) ?_
  intro z h1 w
  obtain ⟨f1, a1, G1, e1, r1, g1⟩ := w
  refine l_m (ft_d o_La_c1 7 rfl) rfl ?_
  refine l_arg 1 (ft_d o_La_c1 8 rfl) (ft_d o_La_c1 9 rfl) (ft_d o_La_c1 10 rfl) (ft_d o_La_c1 11 rfl) (ft_d o_La_c1 12 rfl) rfl rfl (Nat.le_of_ble_eq_true rfl) hL hi ?_
  refine l_callI (K' := k_Mo_truncate) (b0 := 309) (As := [.inl (xs (i + 1)).toInt]) (ft_d o_La_c1 13 rfl) rfl ml_La_22 li_Mo_truncate lw_Mo_truncate ⟨rfl, rfl, (Nat.le_of_ble_eq_true rfl), (Nat.le_of_ble_eq_true rfl)⟩ (Or.inl rfl) sh_309a (ck_11).1 rfl rfl rfl (Nat.le_of_ble_eq_true rfl) (mS_truncate h1 G B hB hb (mG_fr f1 hM)) ?_
  intro z2 h2 w2
  obtain ⟨f2, a2, G2, e2, r2, g2⟩ := w2
  obtain ⟨ea, eG⟩ := fn_tR G a1 G1 a2 G2 r1 r2
  have hz : z = z2 := inl_inj ((som_inj e1).symm.trans (ea.trans (som_inj e2)))
  refine l_eqI (ft_d o_La_c1 14 rfl) rfl hz ?_
  exact k h2 G2 (bd_tR B G a2 G2 hB0 hb r2) (cG_fr f2 (eG ▸ g1)) g2
theorem la_2 {L : Nat} {xs : Nat → Int32} {i : Nat} {B : Int} (hL : L ≤ 3072) (hi : i + 6 ≤ L) (hB0 : 0 ≤ B) (hB : B ≤ 900000000) (k : lK L xs 1318 i (B + 20000)) : lK L xs 334 i B := by
  intro h G hb hG hM
  refine l_x (ft_d o_La_c2 0 rfl) rfl ?_
  refine l_callI (K' := k_FT_load) (b0 := 0) (As := []) (ft_d o_La_c2 1 rfl) rfl ml_La_23 li_FT_load lw_FT_load ⟨rfl, rfl, (Nat.le_of_ble_eq_true rfl), (Nat.le_of_ble_eq_true rfl)⟩ (Or.inl rfl) sh_0a (ck_10).1 rfl rfl rfl (Nat.le_of_ble_eq_true rfl) (cS_load h G B hB hb hG) ?_
  intro z h1 w
  obtain ⟨f1, a1, G1, e1, r1, g1⟩ := w
  refine l_m (ft_d o_La_c2 2 rfl) rfl ?_
  refine l_callI (K' := k_Mo_load) (b0 := 309) (As := []) (ft_d o_La_c2 3 rfl) rfl ml_La_27 li_Mo_load lw_Mo_load ⟨rfl, rfl, (Nat.le_of_ble_eq_true rfl), (Nat.le_of_ble_eq_true rfl)⟩ (Or.inl rfl) sh_309a (ck_11).1 rfl rfl rfl (Nat.le_of_ble_eq_true rfl) (mS_load h1 G B hB hb (mG_fr f1 hM)) ?_
  intro z2 h2 w2
  obtain ⟨f2, a2, G2, e2, r2, g2⟩ := w2
  obtain ⟨ea, eG⟩ := fn_Ld G a1 G1 a2 G2 r1 r2
  have hz : z = z2 := inl_inj ((som_inj e1).symm.trans (ea.trans (som_inj e2)))
  refine l_eqI (ft_d o_La_c2 4 rfl) rfl hz ?_
  exact k h2 G2 (bd_Ld B G a2 G2 hB0 hb r2) (cG_fr f2 (eG ▸ g1)) g2
theorem la_3 {L : Nat} {xs : Nat → Int32} {i : Nat} {B : Int} (hL : L ≤ 3072) (hi : i + 6 ≤ L) (hB0 : 0 ≤ B) (hB : B ≤ 900000000) (k : lK L xs 1318 i (B + 20000)) : lK L xs 347 i B := by
  intro h G hb hG hM
  refine l_x (ft_d o_La_c3 0 rfl) rfl ?_
  refine l_callI (K' := k_FT_errorPosition) (b0 := 0) (As := []) (ft_d o_La_c3 1 rfl) rfl ml_La_28 li_FT_errorPosition lw_FT_errorPosition ⟨rfl, rfl, (Nat.le_of_ble_eq_true rfl), (Nat.le_of_ble_eq_true rfl)⟩ (Or.inl rfl) sh_0a (ck_10).1 rfl rfl rfl (Nat.le_of_ble_eq_true rfl) (cS_errorPosition h G B hB hb hG) ?_
  intro z h1 w
  obtain ⟨f1, a1, G1, e1, r1, g1⟩ := w
  refine l_m (ft_d o_La_c3 2 rfl) rfl ?_
  refine l_callI (K' := k_Mo_errorPosition) (b0 := 309) (As := []) (ft_d o_La_c3 3 rfl) rfl ml_La_31 li_Mo_errorPosition lw_Mo_errorPosition ⟨rfl, rfl, (Nat.le_of_ble_eq_true rfl), (Nat.le_of_ble_eq_true rfl)⟩ (Or.inl rfl) sh_309a (ck_11).1 rfl rfl rfl (Nat.le_of_ble_eq_true rfl) (mS_errorPosition h1 G B hB hb (mG_fr f1 hM)) ?_
  intro z2 h2 w2
  obtain ⟨f2, a2, G2, e2, r2, g2⟩ := w2
  obtain ⟨ea, eG⟩ := fn_Err G a1 G1 a2 G2 r1 r2
  have hz : z = z2 := inl_inj ((som_inj e1).symm.trans (ea.trans (som_inj e2)))
  refine l_eqI (ft_d o_La_c3 4 rfl) rfl hz ?_
  exact k h2 G2 ((bd_same (fun _ _ _ r => r.2)) B G a2 G2 hB0 hb r2) (cG_fr f2 (eG ▸ g1)) g2
theorem la_4 {L : Nat} {xs : Nat → Int32} {i : Nat} {B : Int} (hL : L ≤ 3072) (hi : i + 6 ≤ L) (hB0 : 0 ≤ B) (hB : B ≤ 900000000) (k : lK L xs 1318 i (B + 20000)) : lK L xs 360 i B := by
  intro h G hb hG hM
  refine l_x (ft_d o_La_c4 0 rfl) rfl ?_
  refine l_callI (K' := k_FT_capacity) (b0 := 0) (As := []) (ft_d o_La_c4 1 rfl) rfl ml_La_32 li_FT_capacity lw_FT_capacity ⟨rfl, rfl, (Nat.le_of_ble_eq_true rfl), (Nat.le_of_ble_eq_true rfl)⟩ (Or.inl rfl) sh_0a (ck_10).1 rfl rfl rfl (Nat.le_of_ble_eq_true rfl) (cS_capacity h G B hB hb hG) ?_
  intro z h1 w
  obtain ⟨f1, a1, G1, e1, r1, g1⟩ := w
  refine l_m (ft_d o_La_c4 2 rfl) rfl ?_
  refine l_callI (K' := k_Mo_capacity) (b0 := 309) (As := []) (ft_d o_La_c4 3 rfl) rfl ml_La_35 li_Mo_capacity lw_Mo_capacity ⟨rfl, rfl, (Nat.le_of_ble_eq_true rfl), (Nat.le_of_ble_eq_true rfl)⟩ (Or.inl rfl) sh_309a (ck_11).1 rfl rfl rfl (Nat.le_of_ble_eq_true rfl) (mS_capacity h1 G B hB hb (mG_fr f1 hM)) ?_
  intro z2 h2 w2
  obtain ⟨f2, a2, G2, e2, r2, g2⟩ := w2
  obtain ⟨ea, eG⟩ := fn_qI G a1 G1 a2 G2 r1 r2
  have hz : z = z2 := inl_inj ((som_inj e1).symm.trans (ea.trans (som_inj e2)))
  refine l_eqI (ft_d o_La_c4 4 rfl) rfl hz ?_
  exact k h2 G2 ((bd_same (fun _ _ _ r => r.2)) B G a2 G2 hB0 hb r2) (cG_fr f2 (eG ▸ g1)) g2
theorem la_5 {L : Nat} {xs : Nat → Int32} {i : Nat} {B : Int} (hL : L ≤ 3072) (hi : i + 6 ≤ L) (hB0 : 0 ≤ B) (hB : B ≤ 900000000) (k : lK L xs 1318 i (B + 20000)) : lK L xs 373 i B := by
  intro h G hb hG hM
  refine l_x (ft_d o_La_c5 0 rfl) rfl ?_
  refine l_arg 1 (ft_d o_La_c5 1 rfl) (ft_d o_La_c5 2 rfl) (ft_d o_La_c5 3 rfl) (ft_d o_La_c5 4 rfl) (ft_d o_La_c5 5 rfl) rfl rfl (Nat.le_of_ble_eq_true rfl) hL hi ?_
  refine l_callI (K' := k_FT_setCapacity) (b0 := 0) (As := [.inl (xs (i + 1)).toInt]) (ft_d o_La_c5 6 rfl) rfl ml_La_36 li_FT_setCapacity lw_FT_setCapacity ⟨rfl, rfl, (Nat.le_of_ble_eq_true rfl), (Nat.le_of_ble_eq_true rfl)⟩ (Or.inr rfl) sh_0a (ck_10).1 rfl rfl rfl (Nat.le_of_ble_eq_true rfl) (cS_setCapacity h G B hB hb hG) ?_
  intro z h1 w
  obtain ⟨f1, a1, G1, e1, r1, g1⟩ := w
  refine l_m (ft_d o_La_c5 7 rfl) rfl ?_
  refine l_arg 1 (ft_d o_La_c5 8 rfl) (ft_d o_La_c5 9 rfl) (ft_d o_La_c5 10 rfl) (ft_d o_La_c5 11 rfl) (ft_d o_La_c5 12 rfl) rfl rfl (Nat.le_of_ble_eq_true rfl) hL hi ?_
  refine l_callI (K' := k_Mo_setCapacity) (b0 := 309) (As := [.inl (xs (i + 1)).toInt]) (ft_d o_La_c5 13 rfl) rfl ml_La_40 li_Mo_setCapacity lw_Mo_setCapacity ⟨rfl, rfl, (Nat.le_of_ble_eq_true rfl), (Nat.le_of_ble_eq_true rfl)⟩ (Or.inr rfl) sh_309a (ck_11).1 rfl rfl rfl (Nat.le_of_ble_eq_true rfl) (mS_setCapacity h1 G B hB hb (mG_fr f1 hM)) ?_
  intro z2 h2 w2
  obtain ⟨f2, a2, G2, e2, r2, g2⟩ := w2
  obtain ⟨ea, eG⟩ := fn_oR G a1 G1 a2 G2 r1 r2
  have hz : z = z2 := inl_inj ((som_inj e1).symm.trans (ea.trans (som_inj e2)))
  refine l_eqI (ft_d o_La_c5 14 rfl) rfl hz ?_
  exact k h2 G2 ((bd_oR (fun _ _ _ x y => (aCap_ok x y).1)) B G a2 G2 hB0 hb r2) (cG_fr f2 (eG ▸ g1)) g2
theorem la_6 {L : Nat} {xs : Nat → Int32} {i : Nat} {B : Int} (hL : L ≤ 3072) (hi : i + 6 ≤ L) (hB0 : 0 ≤ B) (hB : B ≤ 900000000) (k : lK L xs 1318 i (B + 20000)) : lK L xs 396 i B := by
  intro h G hb hG hM
  refine l_x (ft_d o_La_c6 0 rfl) rfl ?_
  refine l_callI (K' := k_FT_routes) (b0 := 0) (As := []) (ft_d o_La_c6 1 rfl) rfl ml_La_41 li_FT_routes lw_FT_routes ⟨rfl, rfl, (Nat.le_of_ble_eq_true rfl), (Nat.le_of_ble_eq_true rfl)⟩ (Or.inl rfl) sh_0a (ck_10).1 rfl rfl rfl (Nat.le_of_ble_eq_true rfl) (cS_routes h G B hB hb hG) ?_
  intro z h1 w
  obtain ⟨f1, a1, G1, e1, r1, g1⟩ := w
  refine l_m (ft_d o_La_c6 2 rfl) rfl ?_
  refine l_callI (K' := k_Mo_routes) (b0 := 309) (As := []) (ft_d o_La_c6 3 rfl) rfl ml_La_44 li_Mo_routes lw_Mo_routes ⟨rfl, rfl, (Nat.le_of_ble_eq_true rfl), (Nat.le_of_ble_eq_true rfl)⟩ (Or.inl rfl) sh_309a (ck_11).1 rfl rfl rfl (Nat.le_of_ble_eq_true rfl) (mS_routes h1 G B hB hb (mG_fr f1 hM)) ?_
  intro z2 h2 w2
  obtain ⟨f2, a2, G2, e2, r2, g2⟩ := w2
  obtain ⟨ea, eG⟩ := fn_qI G a1 G1 a2 G2 r1 r2
  have hz : z = z2 := inl_inj ((som_inj e1).symm.trans (ea.trans (som_inj e2)))
  refine l_eqI (ft_d o_La_c6 4 rfl) rfl hz ?_
  exact k h2 G2 ((bd_same (fun _ _ _ r => r.2)) B G a2 G2 hB0 hb r2) (cG_fr f2 (eG ▸ g1)) g2
theorem la_7 {L : Nat} {xs : Nat → Int32} {i : Nat} {B : Int} (hL : L ≤ 3072) (hi : i + 6 ≤ L) (hB0 : 0 ≤ B) (hB : B ≤ 900000000) (k : lK L xs 1318 i (B + 20000)) : lK L xs 409 i B := by
  intro h G hb hG hM
  refine l_x (ft_d o_La_c7 0 rfl) rfl ?_
  refine l_arg 1 (ft_d o_La_c7 1 rfl) (ft_d o_La_c7 2 rfl) (ft_d o_La_c7 3 rfl) (ft_d o_La_c7 4 rfl) (ft_d o_La_c7 5 rfl) rfl rfl (Nat.le_of_ble_eq_true rfl) hL hi ?_
  refine l_arg 2 (ft_d o_La_c7 6 rfl) (ft_d o_La_c7 7 rfl) (ft_d o_La_c7 8 rfl) (ft_d o_La_c7 9 rfl) (ft_d o_La_c7 10 rfl) rfl rfl (Nat.le_of_ble_eq_true rfl) hL hi ?_
  refine l_callL (K' := k_FT_route) (b0 := 0) (As := [.inl (xs (i + 1)).toInt, .inl (xs (i + 2)).toInt]) (ft_d o_La_c7 11 rfl) rfl ml_La_45 li_FT_route lw_FT_route ⟨rfl, rfl, (Nat.le_of_ble_eq_true rfl), (Nat.le_of_ble_eq_true rfl)⟩ rfl sh_0a (ck_10).1 rfl rfl rfl (Nat.le_of_ble_eq_true rfl) (cS_route h G B hB hb hG) ?_
  intro z h1 w
  obtain ⟨f1, a1, G1, e1, r1, g1⟩ := w
  refine l_m (ft_d o_La_c7 12 rfl) rfl ?_
  refine l_arg 1 (ft_d o_La_c7 13 rfl) (ft_d o_La_c7 14 rfl) (ft_d o_La_c7 15 rfl) (ft_d o_La_c7 16 rfl) (ft_d o_La_c7 17 rfl) rfl rfl (Nat.le_of_ble_eq_true rfl) hL hi ?_
  refine l_arg 2 (ft_d o_La_c7 18 rfl) (ft_d o_La_c7 19 rfl) (ft_d o_La_c7 20 rfl) (ft_d o_La_c7 21 rfl) (ft_d o_La_c7 22 rfl) rfl rfl (Nat.le_of_ble_eq_true rfl) hL hi ?_
  refine l_callL (K' := k_Mo_route) (b0 := 309) (As := [.inl (xs (i + 1)).toInt, .inl (xs (i + 2)).toInt]) (ft_d o_La_c7 23 rfl) rfl ml_La_49 li_Mo_route lw_Mo_route ⟨rfl, rfl, (Nat.le_of_ble_eq_true rfl), (Nat.le_of_ble_eq_true rfl)⟩ rfl sh_309a (ck_11).1 rfl rfl rfl (Nat.le_of_ble_eq_true rfl) (mS_route h1 G B hB hb (mG_fr f1 hM)) ?_
  intro z2 h2 w2
  obtain ⟨f2, a2, G2, e2, r2, g2⟩ := w2
  obtain ⟨ea, eG⟩ := fn_qL G a1 G1 a2 G2 r1 r2
  have hz : z = z2 := inr_inj ((som_injL e1).symm.trans (ea.trans (som_injL e2)))
  refine l_eqL (ft_d o_La_c7 24 rfl) (ft_d o_La_c7 25 rfl) rfl hz ?_
  exact k h2 G2 ((bd_same (fun _ _ _ r => r.2)) B G a2 G2 hB0 hb r2) (cG_fr f2 (eG ▸ g1)) g2
theorem la_8 {L : Nat} {xs : Nat → Int32} {i : Nat} {B : Int} (hL : L ≤ 3072) (hi : i + 6 ≤ L) (hB0 : 0 ≤ B) (hB : B ≤ 900000000) (k : lK L xs 1318 i (B + 20000)) : lK L xs 443 i B := by
  intro h G hb hG hM
  refine l_x (ft_d o_La_c8 0 rfl) rfl ?_
  refine l_arg 1 (ft_d o_La_c8 1 rfl) (ft_d o_La_c8 2 rfl) (ft_d o_La_c8 3 rfl) (ft_d o_La_c8 4 rfl) (ft_d o_La_c8 5 rfl) rfl rfl (Nat.le_of_ble_eq_true rfl) hL hi ?_
  refine l_arg 2 (ft_d o_La_c8 6 rfl) (ft_d o_La_c8 7 rfl) (ft_d o_La_c8 8 rfl) (ft_d o_La_c8 9 rfl) (ft_d o_La_c8 10 rfl) rfl rfl (Nat.le_of_ble_eq_true rfl) hL hi ?_
  refine l_arg 3 (ft_d o_La_c8 11 rfl) (ft_d o_La_c8 12 rfl) (ft_d o_La_c8 13 rfl) (ft_d o_La_c8 14 rfl) (ft_d o_La_c8 15 rfl) rfl rfl (Nat.le_of_ble_eq_true rfl) hL hi ?_
  refine l_callI (K' := k_FT_addRoute) (b0 := 0) (As := [.inl (xs (i + 1)).toInt, .inl (xs (i + 2)).toInt, .inl (xs (i + 3)).toInt]) (ft_d o_La_c8 16 rfl) rfl ml_La_50 li_FT_addRoute lw_FT_addRoute ⟨rfl, rfl, (Nat.le_of_ble_eq_true rfl), (Nat.le_of_ble_eq_true rfl)⟩ (Or.inl rfl) sh_0a (ck_10).1 rfl rfl rfl (Nat.le_of_ble_eq_true rfl) (cS_addRoute h G B hB hb hG) ?_
  intro z h1 w
  obtain ⟨f1, a1, G1, e1, r1, g1⟩ := w
  refine l_m (ft_d o_La_c8 17 rfl) rfl ?_
  refine l_arg 1 (ft_d o_La_c8 18 rfl) (ft_d o_La_c8 19 rfl) (ft_d o_La_c8 20 rfl) (ft_d o_La_c8 21 rfl) (ft_d o_La_c8 22 rfl) rfl rfl (Nat.le_of_ble_eq_true rfl) hL hi ?_
  refine l_arg 2 (ft_d o_La_c8 23 rfl) (ft_d o_La_c8 24 rfl) (ft_d o_La_c8 25 rfl) (ft_d o_La_c8 26 rfl) (ft_d o_La_c8 27 rfl) rfl rfl (Nat.le_of_ble_eq_true rfl) hL hi ?_
  refine l_arg 3 (ft_d o_La_c8 28 rfl) (ft_d o_La_c8 29 rfl) (ft_d o_La_c8 30 rfl) (ft_d o_La_c8 31 rfl) (ft_d o_La_c8 32 rfl) rfl rfl (Nat.le_of_ble_eq_true rfl) hL hi ?_
  refine l_callI (K' := k_Mo_addRoute) (b0 := 309) (As := [.inl (xs (i + 1)).toInt, .inl (xs (i + 2)).toInt, .inl (xs (i + 3)).toInt]) (ft_d o_La_c8 33 rfl) rfl ml_La_54 li_Mo_addRoute lw_Mo_addRoute ⟨rfl, rfl, (Nat.le_of_ble_eq_true rfl), (Nat.le_of_ble_eq_true rfl)⟩ (Or.inl rfl) sh_309a (ck_11).1 rfl rfl rfl (Nat.le_of_ble_eq_true rfl) (mS_addRoute (ft_in_of _) h1 G B hB hb (mG_fr f1 hM)) ?_
  intro z2 h2 w2
  obtain ⟨f2, a2, G2, e2, r2, g2⟩ := w2
  obtain ⟨ea, eG⟩ := fn_oR G a1 G1 a2 G2 r1 r2
  have hz : z = z2 := inl_inj ((som_inj e1).symm.trans (ea.trans (som_inj e2)))
  refine l_eqI (ft_d o_La_c8 34 rfl) rfl hz ?_
  exact k h2 G2 ((bd_oR (fun _ _ _ x y => aAdd_ok x y)) B G a2 G2 hB0 hb r2) (cG_fr f2 (eG ▸ g1)) g2
theorem la_9 {L : Nat} {xs : Nat → Int32} {i : Nat} {B : Int} (hL : L ≤ 3072) (hi : i + 6 ≤ L) (hB0 : 0 ≤ B) (hB : B ≤ 900000000) (k : lK L xs 1318 i (B + 20000)) : lK L xs 486 i B := by
  intro h G hb hG hM
  refine l_x (ft_d o_La_c9 0 rfl) rfl ?_
  refine l_arg 1 (ft_d o_La_c9 1 rfl) (ft_d o_La_c9 2 rfl) (ft_d o_La_c9 3 rfl) (ft_d o_La_c9 4 rfl) (ft_d o_La_c9 5 rfl) rfl rfl (Nat.le_of_ble_eq_true rfl) hL hi ?_
  refine l_arg 2 (ft_d o_La_c9 6 rfl) (ft_d o_La_c9 7 rfl) (ft_d o_La_c9 8 rfl) (ft_d o_La_c9 9 rfl) (ft_d o_La_c9 10 rfl) rfl rfl (Nat.le_of_ble_eq_true rfl) hL hi ?_
  refine l_callI (K' := k_FT_removeRoute) (b0 := 0) (As := [.inl (xs (i + 1)).toInt, .inl (xs (i + 2)).toInt]) (ft_d o_La_c9 11 rfl) rfl ml_La_55 li_FT_removeRoute lw_FT_removeRoute ⟨rfl, rfl, (Nat.le_of_ble_eq_true rfl), (Nat.le_of_ble_eq_true rfl)⟩ (Or.inl rfl) sh_0a (ck_10).1 rfl rfl rfl (Nat.le_of_ble_eq_true rfl) (cS_removeRoute h G B hB hb hG) ?_
  intro z h1 w
  obtain ⟨f1, a1, G1, e1, r1, g1⟩ := w
  refine l_m (ft_d o_La_c9 12 rfl) rfl ?_
  refine l_arg 1 (ft_d o_La_c9 13 rfl) (ft_d o_La_c9 14 rfl) (ft_d o_La_c9 15 rfl) (ft_d o_La_c9 16 rfl) (ft_d o_La_c9 17 rfl) rfl rfl (Nat.le_of_ble_eq_true rfl) hL hi ?_
  refine l_arg 2 (ft_d o_La_c9 18 rfl) (ft_d o_La_c9 19 rfl) (ft_d o_La_c9 20 rfl) (ft_d o_La_c9 21 rfl) (ft_d o_La_c9 22 rfl) rfl rfl (Nat.le_of_ble_eq_true rfl) hL hi ?_
  refine l_callI (K' := k_Mo_removeRoute) (b0 := 309) (As := [.inl (xs (i + 1)).toInt, .inl (xs (i + 2)).toInt]) (ft_d o_La_c9 23 rfl) rfl ml_La_59 li_Mo_removeRoute lw_Mo_removeRoute ⟨rfl, rfl, (Nat.le_of_ble_eq_true rfl), (Nat.le_of_ble_eq_true rfl)⟩ (Or.inl rfl) sh_309a (ck_11).1 rfl rfl rfl (Nat.le_of_ble_eq_true rfl) (mS_removeRoute (ft_in_of _) h1 G B hB hb (mG_fr f1 hM)) ?_
  intro z2 h2 w2
  obtain ⟨f2, a2, G2, e2, r2, g2⟩ := w2
  obtain ⟨ea, eG⟩ := fn_oR G a1 G1 a2 G2 r1 r2
  have hz : z = z2 := inl_inj ((som_inj e1).symm.trans (ea.trans (som_inj e2)))
  refine l_eqI (ft_d o_La_c9 24 rfl) rfl hz ?_
  exact k h2 G2 ((bd_oR (fun _ _ _ x y => aRem_ok x y)) B G a2 G2 hB0 hb r2) (cG_fr f2 (eG ▸ g1)) g2
theorem la_10 {L : Nat} {xs : Nat → Int32} {i : Nat} {B : Int} (hL : L ≤ 3072) (hi : i + 6 ≤ L) (hB0 : 0 ≤ B) (hB : B ≤ 900000000) (k : lK L xs 1318 i (B + 20000)) : lK L xs 519 i B := by
  intro h G hb hG hM
  refine l_x (ft_d o_La_c10 0 rfl) rfl ?_
  refine l_arg 1 (ft_d o_La_c10 1 rfl) (ft_d o_La_c10 2 rfl) (ft_d o_La_c10 3 rfl) (ft_d o_La_c10 4 rfl) (ft_d o_La_c10 5 rfl) rfl rfl (Nat.le_of_ble_eq_true rfl) hL hi ?_
  refine l_callI (K' := k_FT_answer) (b0 := 0) (As := [.inl (xs (i + 1)).toInt]) (ft_d o_La_c10 6 rfl) rfl ml_La_60 li_FT_answer lw_FT_answer ⟨rfl, rfl, (Nat.le_of_ble_eq_true rfl), (Nat.le_of_ble_eq_true rfl)⟩ (Or.inl rfl) sh_0a (ck_10).1 rfl rfl rfl (Nat.le_of_ble_eq_true rfl) (cS_answer h G B hB hb hG) ?_
  intro z h1 w
  obtain ⟨f1, a1, G1, e1, r1, g1⟩ := w
  refine l_m (ft_d o_La_c10 7 rfl) rfl ?_
  refine l_arg 1 (ft_d o_La_c10 8 rfl) (ft_d o_La_c10 9 rfl) (ft_d o_La_c10 10 rfl) (ft_d o_La_c10 11 rfl) (ft_d o_La_c10 12 rfl) rfl rfl (Nat.le_of_ble_eq_true rfl) hL hi ?_
  refine l_callI (K' := k_Mo_answer) (b0 := 309) (As := [.inl (xs (i + 1)).toInt]) (ft_d o_La_c10 13 rfl) rfl ml_La_63 li_Mo_answer lw_Mo_answer ⟨rfl, rfl, (Nat.le_of_ble_eq_true rfl), (Nat.le_of_ble_eq_true rfl)⟩ (Or.inl rfl) sh_309a (ck_11).1 rfl rfl rfl (Nat.le_of_ble_eq_true rfl) (mS_answer h1 G B hB hb (mG_fr f1 hM)) ?_
  intro z2 h2 w2
  obtain ⟨f2, a2, G2, e2, r2, g2⟩ := w2
  obtain ⟨ea, eG⟩ := fn_qI G a1 G1 a2 G2 r1 r2
  have hz : z = z2 := inl_inj ((som_inj e1).symm.trans (ea.trans (som_inj e2)))
  refine l_eqI (ft_d o_La_c10 14 rfl) rfl hz ?_
  exact k h2 G2 ((bd_same (fun _ _ _ r => r.2)) B G a2 G2 hB0 hb r2) (cG_fr f2 (eG ▸ g1)) g2
theorem la_11 {L : Nat} {xs : Nat → Int32} {i : Nat} {B : Int} (hL : L ≤ 3072) (hi : i + 6 ≤ L) (hB0 : 0 ≤ B) (hB : B ≤ 900000000) (k : lK L xs 1318 i (B + 20000)) : lK L xs 542 i B := by
  intro h G hb hG hM
  refine l_x (ft_d o_La_c11 0 rfl) rfl ?_
  refine l_arg 1 (ft_d o_La_c11 1 rfl) (ft_d o_La_c11 2 rfl) (ft_d o_La_c11 3 rfl) (ft_d o_La_c11 4 rfl) (ft_d o_La_c11 5 rfl) rfl rfl (Nat.le_of_ble_eq_true rfl) hL hi ?_
  refine l_callI (K' := k_FT_matching) (b0 := 0) (As := [.inl (xs (i + 1)).toInt]) (ft_d o_La_c11 6 rfl) rfl ml_La_64 li_FT_matching lw_FT_matching ⟨rfl, rfl, (Nat.le_of_ble_eq_true rfl), (Nat.le_of_ble_eq_true rfl)⟩ (Or.inl rfl) sh_0a (ck_10).1 rfl rfl rfl (Nat.le_of_ble_eq_true rfl) (cS_matching h G B hB hb hG) ?_
  intro z h1 w
  obtain ⟨f1, a1, G1, e1, r1, g1⟩ := w
  refine l_m (ft_d o_La_c11 7 rfl) rfl ?_
  refine l_arg 1 (ft_d o_La_c11 8 rfl) (ft_d o_La_c11 9 rfl) (ft_d o_La_c11 10 rfl) (ft_d o_La_c11 11 rfl) (ft_d o_La_c11 12 rfl) rfl rfl (Nat.le_of_ble_eq_true rfl) hL hi ?_
  refine l_callI (K' := k_Mo_matching) (b0 := 309) (As := [.inl (xs (i + 1)).toInt]) (ft_d o_La_c11 13 rfl) rfl ml_La_67 li_Mo_matching lw_Mo_matching ⟨rfl, rfl, (Nat.le_of_ble_eq_true rfl), (Nat.le_of_ble_eq_true rfl)⟩ (Or.inl rfl) sh_309a (ck_11).1 rfl rfl rfl (Nat.le_of_ble_eq_true rfl) (mS_matching h1 G B hB hb (mG_fr f1 hM)) ?_
  intro z2 h2 w2
  obtain ⟨f2, a2, G2, e2, r2, g2⟩ := w2
  obtain ⟨ea, eG⟩ := fn_Mat G a1 G1 a2 G2 r1 r2
  have hz : z = z2 := inl_inj ((som_inj e1).symm.trans (ea.trans (som_inj e2)))
  refine l_eqI (ft_d o_La_c11 14 rfl) rfl hz ?_
  exact k h2 G2 ((bd_same (fun _ _ _ r => r.2)) B G a2 G2 hB0 hb r2) (cG_fr f2 (eG ▸ g1)) g2
theorem la_12 {L : Nat} {xs : Nat → Int32} {i : Nat} {B : Int} (hL : L ≤ 3072) (hi : i + 6 ≤ L) (hB0 : 0 ≤ B) (hB : B ≤ 900000000) (k : lK L xs 1318 i (B + 20000)) : lK L xs 565 i B := by
  intro h G hb hG hM
  refine l_x (ft_d o_La_c12 0 rfl) rfl ?_
  refine l_arg 1 (ft_d o_La_c12 1 rfl) (ft_d o_La_c12 2 rfl) (ft_d o_La_c12 3 rfl) (ft_d o_La_c12 4 rfl) (ft_d o_La_c12 5 rfl) rfl rfl (Nat.le_of_ble_eq_true rfl) hL hi ?_
  refine l_arg 2 (ft_d o_La_c12 6 rfl) (ft_d o_La_c12 7 rfl) (ft_d o_La_c12 8 rfl) (ft_d o_La_c12 9 rfl) (ft_d o_La_c12 10 rfl) rfl rfl (Nat.le_of_ble_eq_true rfl) hL hi ?_
  refine l_callI (K' := k_FT_packet) (b0 := 0) (As := [.inl (xs (i + 1)).toInt, .inl (xs (i + 2)).toInt]) (ft_d o_La_c12 11 rfl) rfl ml_La_68 li_FT_packet lw_FT_packet ⟨rfl, rfl, (Nat.le_of_ble_eq_true rfl), (Nat.le_of_ble_eq_true rfl)⟩ (Or.inl rfl) sh_0a (ck_10).1 rfl rfl rfl (Nat.le_of_ble_eq_true rfl) (cS_packet h G B hB hb hG) ?_
  intro z h1 w
  obtain ⟨f1, a1, G1, e1, r1, g1⟩ := w
  refine l_m (ft_d o_La_c12 12 rfl) rfl ?_
  refine l_arg 1 (ft_d o_La_c12 13 rfl) (ft_d o_La_c12 14 rfl) (ft_d o_La_c12 15 rfl) (ft_d o_La_c12 16 rfl) (ft_d o_La_c12 17 rfl) rfl rfl (Nat.le_of_ble_eq_true rfl) hL hi ?_
  refine l_arg 2 (ft_d o_La_c12 18 rfl) (ft_d o_La_c12 19 rfl) (ft_d o_La_c12 20 rfl) (ft_d o_La_c12 21 rfl) (ft_d o_La_c12 22 rfl) rfl rfl (Nat.le_of_ble_eq_true rfl) hL hi ?_
  refine l_callI (K' := k_Mo_packet) (b0 := 309) (As := [.inl (xs (i + 1)).toInt, .inl (xs (i + 2)).toInt]) (ft_d o_La_c12 23 rfl) rfl ml_La_71 li_Mo_packet lw_Mo_packet ⟨rfl, rfl, (Nat.le_of_ble_eq_true rfl), (Nat.le_of_ble_eq_true rfl)⟩ (Or.inl rfl) sh_309a (ck_11).1 rfl rfl rfl (Nat.le_of_ble_eq_true rfl) (mS_packet (ft_in_of _) h1 G B hB hb (mG_fr f1 hM)) ?_
  intro z2 h2 w2
  obtain ⟨f2, a2, G2, e2, r2, g2⟩ := w2
  obtain ⟨ea, eG⟩ := fn_Pkt G a1 G1 a2 G2 r1 r2
  have hz : z = z2 := inl_inj ((som_inj e1).symm.trans (ea.trans (som_inj e2)))
  refine l_eqI (ft_d o_La_c12 24 rfl) rfl hz ?_
  exact k h2 G2 (bd_Pkt B G a2 G2 hB0 hb r2) (cG_fr f2 (eG ▸ g1)) g2
theorem la_13 {L : Nat} {xs : Nat → Int32} {i : Nat} {B : Int} (hL : L ≤ 3072) (hi : i + 6 ≤ L) (hB0 : 0 ≤ B) (hB : B ≤ 900000000) (k : lK L xs 1318 i (B + 20000)) : lK L xs 598 i B := by
  intro h G hb hG hM
  refine l_x (ft_d o_La_c13 0 rfl) rfl ?_
  refine l_callI (K' := k_FT_age) (b0 := 0) (As := []) (ft_d o_La_c13 1 rfl) rfl ml_La_72 li_FT_age lw_FT_age ⟨rfl, rfl, (Nat.le_of_ble_eq_true rfl), (Nat.le_of_ble_eq_true rfl)⟩ (Or.inl rfl) sh_0a (ck_10).1 rfl rfl rfl (Nat.le_of_ble_eq_true rfl) (cS_age h G B hB hb hG) ?_
  intro z h1 w
  obtain ⟨f1, a1, G1, e1, r1, g1⟩ := w
  refine l_m (ft_d o_La_c13 2 rfl) rfl ?_
  refine l_callI (K' := k_Mo_age) (b0 := 309) (As := []) (ft_d o_La_c13 3 rfl) rfl ml_La_75 li_Mo_age lw_Mo_age ⟨rfl, rfl, (Nat.le_of_ble_eq_true rfl), (Nat.le_of_ble_eq_true rfl)⟩ (Or.inl rfl) sh_309a (ck_11).1 rfl rfl rfl (Nat.le_of_ble_eq_true rfl) (mS_age h1 G B hB hb (mG_fr f1 hM)) ?_
  intro z2 h2 w2
  obtain ⟨f2, a2, G2, e2, r2, g2⟩ := w2
  obtain ⟨ea, eG⟩ := fn_oR G a1 G1 a2 G2 r1 r2
  have hz : z = z2 := inl_inj ((som_inj e1).symm.trans (ea.trans (som_inj e2)))
  refine l_eqI (ft_d o_La_c13 4 rfl) rfl hz ?_
  exact k h2 G2 ((bd_oR (fun _ _ _ x y => (aAge_ok x y).1)) B G a2 G2 hB0 hb r2) (cG_fr f2 (eG ▸ g1)) g2
theorem la_14 {L : Nat} {xs : Nat → Int32} {i : Nat} {B : Int} (hL : L ≤ 3072) (hi : i + 6 ≤ L) (hB0 : 0 ≤ B) (hB : B ≤ 900000000) (k : lK L xs 1318 i (B + 20000)) : lK L xs 611 i B := by
  intro h G hb hG hM
  refine l_x (ft_d o_La_c14 0 rfl) rfl ?_
  refine l_callI (K' := k_FT_logged) (b0 := 0) (As := []) (ft_d o_La_c14 1 rfl) rfl ml_La_76 li_FT_logged lw_FT_logged ⟨rfl, rfl, (Nat.le_of_ble_eq_true rfl), (Nat.le_of_ble_eq_true rfl)⟩ (Or.inl rfl) sh_0a (ck_10).1 rfl rfl rfl (Nat.le_of_ble_eq_true rfl) (cS_logged h G B hB hb hG) ?_
  intro z h1 w
  obtain ⟨f1, a1, G1, e1, r1, g1⟩ := w
  refine l_m (ft_d o_La_c14 2 rfl) rfl ?_
  refine l_callI (K' := k_Mo_logged) (b0 := 309) (As := []) (ft_d o_La_c14 3 rfl) rfl ml_La_79 li_Mo_logged lw_Mo_logged ⟨rfl, rfl, (Nat.le_of_ble_eq_true rfl), (Nat.le_of_ble_eq_true rfl)⟩ (Or.inl rfl) sh_309a (ck_11).1 rfl rfl rfl (Nat.le_of_ble_eq_true rfl) (mS_logged h1 G B hB hb (mG_fr f1 hM)) ?_
  intro z2 h2 w2
  obtain ⟨f2, a2, G2, e2, r2, g2⟩ := w2
  obtain ⟨ea, eG⟩ := fn_qI G a1 G1 a2 G2 r1 r2
  have hz : z = z2 := inl_inj ((som_inj e1).symm.trans (ea.trans (som_inj e2)))
  refine l_eqI (ft_d o_La_c14 4 rfl) rfl hz ?_
  exact k h2 G2 ((bd_same (fun _ _ _ r => r.2)) B G a2 G2 hB0 hb r2) (cG_fr f2 (eG ▸ g1)) g2
theorem la_15 {L : Nat} {xs : Nat → Int32} {i : Nat} {B : Int} (hL : L ≤ 3072) (hi : i + 6 ≤ L) (hB0 : 0 ≤ B) (hB : B ≤ 900000000) (k : lK L xs 1318 i (B + 20000)) : lK L xs 624 i B := by
  intro h G hb hG hM
  refine l_x (ft_d o_La_c15 0 rfl) rfl ?_
  refine l_arg 1 (ft_d o_La_c15 1 rfl) (ft_d o_La_c15 2 rfl) (ft_d o_La_c15 3 rfl) (ft_d o_La_c15 4 rfl) (ft_d o_La_c15 5 rfl) rfl rfl (Nat.le_of_ble_eq_true rfl) hL hi ?_
  refine l_arg 2 (ft_d o_La_c15 6 rfl) (ft_d o_La_c15 7 rfl) (ft_d o_La_c15 8 rfl) (ft_d o_La_c15 9 rfl) (ft_d o_La_c15 10 rfl) rfl rfl (Nat.le_of_ble_eq_true rfl) hL hi ?_
  refine l_callL (K' := k_FT_log) (b0 := 0) (As := [.inl (xs (i + 1)).toInt, .inl (xs (i + 2)).toInt]) (ft_d o_La_c15 11 rfl) rfl ml_La_80 li_FT_log lw_FT_log ⟨rfl, rfl, (Nat.le_of_ble_eq_true rfl), (Nat.le_of_ble_eq_true rfl)⟩ rfl sh_0a (ck_10).1 rfl rfl rfl (Nat.le_of_ble_eq_true rfl) (cS_log h G B hB hb hG) ?_
  intro z h1 w
  obtain ⟨f1, a1, G1, e1, r1, g1⟩ := w
  refine l_m (ft_d o_La_c15 12 rfl) rfl ?_
  refine l_arg 1 (ft_d o_La_c15 13 rfl) (ft_d o_La_c15 14 rfl) (ft_d o_La_c15 15 rfl) (ft_d o_La_c15 16 rfl) (ft_d o_La_c15 17 rfl) rfl rfl (Nat.le_of_ble_eq_true rfl) hL hi ?_
  refine l_arg 2 (ft_d o_La_c15 18 rfl) (ft_d o_La_c15 19 rfl) (ft_d o_La_c15 20 rfl) (ft_d o_La_c15 21 rfl) (ft_d o_La_c15 22 rfl) rfl rfl (Nat.le_of_ble_eq_true rfl) hL hi ?_
  refine l_callL (K' := k_Mo_log) (b0 := 309) (As := [.inl (xs (i + 1)).toInt, .inl (xs (i + 2)).toInt]) (ft_d o_La_c15 23 rfl) rfl ml_La_83 li_Mo_log lw_Mo_log ⟨rfl, rfl, (Nat.le_of_ble_eq_true rfl), (Nat.le_of_ble_eq_true rfl)⟩ rfl sh_309a (ck_11).1 rfl rfl rfl (Nat.le_of_ble_eq_true rfl) (mS_log h1 G B hB hb (mG_fr f1 hM)) ?_
  intro z2 h2 w2
  obtain ⟨f2, a2, G2, e2, r2, g2⟩ := w2
  obtain ⟨ea, eG⟩ := fn_qL G a1 G1 a2 G2 r1 r2
  have hz : z = z2 := inr_inj ((som_injL e1).symm.trans (ea.trans (som_injL e2)))
  refine l_eqL (ft_d o_La_c15 24 rfl) (ft_d o_La_c15 25 rfl) rfl hz ?_
  exact k h2 G2 ((bd_same (fun _ _ _ r => r.2)) B G a2 G2 hB0 hb r2) (cG_fr f2 (eG ▸ g1)) g2
theorem la_16 {L : Nat} {xs : Nat → Int32} {i : Nat} {B : Int} (hL : L ≤ 3072) (hi : i + 6 ≤ L) (hB0 : 0 ≤ B) (hB : B ≤ 900000000) (k : lK L xs 1318 i (B + 20000)) : lK L xs 658 i B := by
  intro h G hb hG hM
  refine l_x (ft_d o_La_c16 0 rfl) rfl ?_
  refine l_callI (K' := k_FT_compressed) (b0 := 0) (As := []) (ft_d o_La_c16 1 rfl) rfl ml_La_84 li_FT_compressed lw_FT_compressed ⟨rfl, rfl, (Nat.le_of_ble_eq_true rfl), (Nat.le_of_ble_eq_true rfl)⟩ (Or.inl rfl) sh_0a (ck_10).1 rfl rfl rfl (Nat.le_of_ble_eq_true rfl) (cS_compressed h G B hB hb hG) ?_
  intro z h1 w
  obtain ⟨f1, a1, G1, e1, r1, g1⟩ := w
  refine l_m (ft_d o_La_c16 2 rfl) rfl ?_
  refine l_callI (K' := k_Mo_compressed) (b0 := 309) (As := []) (ft_d o_La_c16 3 rfl) rfl ml_La_87 li_Mo_compressed lw_Mo_compressed ⟨rfl, rfl, (Nat.le_of_ble_eq_true rfl), (Nat.le_of_ble_eq_true rfl)⟩ (Or.inl rfl) sh_309a (ck_11).1 rfl rfl rfl (Nat.le_of_ble_eq_true rfl) (mS_compressed h1 G B hB hb (mG_fr f1 hM)) ?_
  intro z2 h2 w2
  obtain ⟨f2, a2, G2, e2, r2, g2⟩ := w2
  obtain ⟨ea, eG⟩ := fn_qI G a1 G1 a2 G2 r1 r2
  have hz : z = z2 := inl_inj ((som_inj e1).symm.trans (ea.trans (som_inj e2)))
  refine l_eqI (ft_d o_La_c16 4 rfl) rfl hz ?_
  exact k h2 G2 ((bd_same (fun _ _ _ r => r.2)) B G a2 G2 hB0 hb r2) (cG_fr f2 (eG ▸ g1)) g2
theorem la_17 {L : Nat} {xs : Nat → Int32} {i : Nat} {B : Int} (hL : L ≤ 3072) (hi : i + 6 ≤ L) (hB0 : 0 ≤ B) (hB : B ≤ 900000000) (k : lK L xs 1318 i (B + 20000)) : lK L xs 671 i B := by
  intro h G hb hG hM
  refine l_x (ft_d o_La_c17 0 rfl) rfl ?_
  refine l_arg 1 (ft_d o_La_c17 1 rfl) (ft_d o_La_c17 2 rfl) (ft_d o_La_c17 3 rfl) (ft_d o_La_c17 4 rfl) (ft_d o_La_c17 5 rfl) rfl rfl (Nat.le_of_ble_eq_true rfl) hL hi ?_
  refine l_arg 2 (ft_d o_La_c17 6 rfl) (ft_d o_La_c17 7 rfl) (ft_d o_La_c17 8 rfl) (ft_d o_La_c17 9 rfl) (ft_d o_La_c17 10 rfl) rfl rfl (Nat.le_of_ble_eq_true rfl) hL hi ?_
  refine l_callL (K' := k_FT_entry) (b0 := 0) (As := [.inl (xs (i + 1)).toInt, .inl (xs (i + 2)).toInt]) (ft_d o_La_c17 11 rfl) rfl ml_La_88 li_FT_entry lw_FT_entry ⟨rfl, rfl, (Nat.le_of_ble_eq_true rfl), (Nat.le_of_ble_eq_true rfl)⟩ rfl sh_0a (ck_10).1 rfl rfl rfl (Nat.le_of_ble_eq_true rfl) (cS_entry h G B hB hb hG) ?_
  intro z h1 w
  obtain ⟨f1, a1, G1, e1, r1, g1⟩ := w
  refine l_m (ft_d o_La_c17 12 rfl) rfl ?_
  refine l_arg 1 (ft_d o_La_c17 13 rfl) (ft_d o_La_c17 14 rfl) (ft_d o_La_c17 15 rfl) (ft_d o_La_c17 16 rfl) (ft_d o_La_c17 17 rfl) rfl rfl (Nat.le_of_ble_eq_true rfl) hL hi ?_
  refine l_arg 2 (ft_d o_La_c17 18 rfl) (ft_d o_La_c17 19 rfl) (ft_d o_La_c17 20 rfl) (ft_d o_La_c17 21 rfl) (ft_d o_La_c17 22 rfl) rfl rfl (Nat.le_of_ble_eq_true rfl) hL hi ?_
  refine l_callL (K' := k_Mo_entry) (b0 := 309) (As := [.inl (xs (i + 1)).toInt, .inl (xs (i + 2)).toInt]) (ft_d o_La_c17 23 rfl) rfl ml_La_91 li_Mo_entry lw_Mo_entry ⟨rfl, rfl, (Nat.le_of_ble_eq_true rfl), (Nat.le_of_ble_eq_true rfl)⟩ rfl sh_309a (ck_11).1 rfl rfl rfl (Nat.le_of_ble_eq_true rfl) (mS_entry h1 G B hB hb (mG_fr f1 hM)) ?_
  intro z2 h2 w2
  obtain ⟨f2, a2, G2, e2, r2, g2⟩ := w2
  obtain ⟨ea, eG⟩ := fn_qL G a1 G1 a2 G2 r1 r2
  have hz : z = z2 := inr_inj ((som_injL e1).symm.trans (ea.trans (som_injL e2)))
  refine l_eqL (ft_d o_La_c17 24 rfl) (ft_d o_La_c17 25 rfl) rfl hz ?_
  exact k h2 G2 ((bd_same (fun _ _ _ r => r.2)) B G a2 G2 hB0 hb r2) (cG_fr f2 (eG ▸ g1)) g2
theorem la_18 {L : Nat} {xs : Nat → Int32} {i : Nat} {B : Int} (hL : L ≤ 3072) (hi : i + 6 ≤ L) (hB0 : 0 ≤ B) (hB : B ≤ 900000000) (k : lK L xs 1318 i (B + 20000)) : lK L xs 705 i B := by
  intro h G hb hG hM
  refine l_x (ft_d o_La_c18 0 rfl) rfl ?_
  refine l_arg 1 (ft_d o_La_c18 1 rfl) (ft_d o_La_c18 2 rfl) (ft_d o_La_c18 3 rfl) (ft_d o_La_c18 4 rfl) (ft_d o_La_c18 5 rfl) rfl rfl (Nat.le_of_ble_eq_true rfl) hL hi ?_
  refine l_callI (K' := k_FT_hopHits) (b0 := 0) (As := [.inl (xs (i + 1)).toInt]) (ft_d o_La_c18 6 rfl) rfl ml_La_92 li_FT_hopHits lw_FT_hopHits ⟨rfl, rfl, (Nat.le_of_ble_eq_true rfl), (Nat.le_of_ble_eq_true rfl)⟩ (Or.inl rfl) sh_0a (ck_10).1 rfl rfl rfl (Nat.le_of_ble_eq_true rfl) (cS_hopHits h G B hB hb hG) ?_
  intro z h1 w
  obtain ⟨f1, a1, G1, e1, r1, g1⟩ := w
  refine l_m (ft_d o_La_c18 7 rfl) rfl ?_
  refine l_arg 1 (ft_d o_La_c18 8 rfl) (ft_d o_La_c18 9 rfl) (ft_d o_La_c18 10 rfl) (ft_d o_La_c18 11 rfl) (ft_d o_La_c18 12 rfl) rfl rfl (Nat.le_of_ble_eq_true rfl) hL hi ?_
  refine l_callI (K' := k_Mo_hopHits) (b0 := 309) (As := [.inl (xs (i + 1)).toInt]) (ft_d o_La_c18 13 rfl) rfl ml_La_95 li_Mo_hopHits lw_Mo_hopHits ⟨rfl, rfl, (Nat.le_of_ble_eq_true rfl), (Nat.le_of_ble_eq_true rfl)⟩ (Or.inl rfl) sh_309a (ck_11).1 rfl rfl rfl (Nat.le_of_ble_eq_true rfl) (mS_hopHits h1 G B hB hb (mG_fr f1 hM)) ?_
  intro z2 h2 w2
  obtain ⟨f2, a2, G2, e2, r2, g2⟩ := w2
  obtain ⟨ea, eG⟩ := fn_qI G a1 G1 a2 G2 r1 r2
  have hz : z = z2 := inl_inj ((som_inj e1).symm.trans (ea.trans (som_inj e2)))
  refine l_eqI (ft_d o_La_c18 14 rfl) rfl hz ?_
  exact k h2 G2 ((bd_same (fun _ _ _ r => r.2)) B G a2 G2 hB0 hb r2) (cG_fr f2 (eG ▸ g1)) g2
theorem la_19 {L : Nat} {xs : Nat → Int32} {i : Nat} {B : Int} (hL : L ≤ 3072) (hi : i + 6 ≤ L) (hB0 : 0 ≤ B) (hB : B ≤ 900000000) (k : lK L xs 1318 i (B + 20000)) : lK L xs 728 i B := by
  intro h G hb hG hM
  refine l_x (ft_d o_La_c19 0 rfl) rfl ?_
  refine l_callI (K' := k_FT_busiest) (b0 := 0) (As := []) (ft_d o_La_c19 1 rfl) rfl ml_La_96 li_FT_busiest lw_FT_busiest ⟨rfl, rfl, (Nat.le_of_ble_eq_true rfl), (Nat.le_of_ble_eq_true rfl)⟩ (Or.inl rfl) sh_0a (ck_10).1 rfl rfl rfl (Nat.le_of_ble_eq_true rfl) (cS_busiest h G B hB hb hG) ?_
  intro z h1 w
  obtain ⟨f1, a1, G1, e1, r1, g1⟩ := w
  refine l_m (ft_d o_La_c19 2 rfl) rfl ?_
  refine l_callI (K' := k_Mo_busiest) (b0 := 309) (As := []) (ft_d o_La_c19 3 rfl) rfl ml_La_99 li_Mo_busiest lw_Mo_busiest ⟨rfl, rfl, (Nat.le_of_ble_eq_true rfl), (Nat.le_of_ble_eq_true rfl)⟩ (Or.inl rfl) sh_309a (ck_11).1 rfl rfl rfl (Nat.le_of_ble_eq_true rfl) (mS_busiest h1 G B hB hb (mG_fr f1 hM)) ?_
  intro z2 h2 w2
  obtain ⟨f2, a2, G2, e2, r2, g2⟩ := w2
  obtain ⟨ea, eG⟩ := fn_qI G a1 G1 a2 G2 r1 r2
  have hz : z = z2 := inl_inj ((som_inj e1).symm.trans (ea.trans (som_inj e2)))
  refine l_eqI (ft_d o_La_c19 4 rfl) rfl hz ?_
  exact k h2 G2 ((bd_same (fun _ _ _ r => r.2)) B G a2 G2 hB0 hb r2) (cG_fr f2 (eG ▸ g1)) g2
theorem la_20 {L : Nat} {xs : Nat → Int32} {i : Nat} {B : Int} (hL : L ≤ 3072) (hi : i + 6 ≤ L) (hB0 : 0 ≤ B) (hB : B ≤ 900000000) (k : lK L xs 1318 i (B + 20000)) : lK L xs 741 i B := by
  intro h G hb hG hM
  refine l_x (ft_d o_La_c20 0 rfl) rfl ?_
  refine l_callI (K' := k_FT_coldest) (b0 := 0) (As := []) (ft_d o_La_c20 1 rfl) rfl ml_La_100 li_FT_coldest lw_FT_coldest ⟨rfl, rfl, (Nat.le_of_ble_eq_true rfl), (Nat.le_of_ble_eq_true rfl)⟩ (Or.inl rfl) sh_0a (ck_10).1 rfl rfl rfl (Nat.le_of_ble_eq_true rfl) (cS_coldest h G B hB hb hG) ?_
  intro z h1 w
  obtain ⟨f1, a1, G1, e1, r1, g1⟩ := w
  refine l_m (ft_d o_La_c20 2 rfl) rfl ?_
  refine l_callI (K' := k_Mo_coldest) (b0 := 309) (As := []) (ft_d o_La_c20 3 rfl) rfl ml_La_103 li_Mo_coldest lw_Mo_coldest ⟨rfl, rfl, (Nat.le_of_ble_eq_true rfl), (Nat.le_of_ble_eq_true rfl)⟩ (Or.inl rfl) sh_309a (ck_11).1 rfl rfl rfl (Nat.le_of_ble_eq_true rfl) (mS_coldest h1 G B hB hb (mG_fr f1 hM)) ?_
  intro z2 h2 w2
  obtain ⟨f2, a2, G2, e2, r2, g2⟩ := w2
  obtain ⟨ea, eG⟩ := fn_qI G a1 G1 a2 G2 r1 r2
  have hz : z = z2 := inl_inj ((som_inj e1).symm.trans (ea.trans (som_inj e2)))
  refine l_eqI (ft_d o_La_c20 4 rfl) rfl hz ?_
  exact k h2 G2 ((bd_same (fun _ _ _ r => r.2)) B G a2 G2 hB0 hb r2) (cG_fr f2 (eG ▸ g1)) g2
theorem la_21 {L : Nat} {xs : Nat → Int32} {i : Nat} {B : Int} (hL : L ≤ 3072) (hi : i + 6 ≤ L) (hB0 : 0 ≤ B) (hB : B ≤ 900000000) (k : lK L xs 1318 i (B + 20000)) : lK L xs 754 i B := by
  intro h G hb hG hM
  refine l_x (ft_d o_La_c21 0 rfl) rfl ?_
  refine l_callI (K' := k_FT_exceptions) (b0 := 0) (As := []) (ft_d o_La_c21 1 rfl) rfl ml_La_104 li_FT_exceptions lw_FT_exceptions ⟨rfl, rfl, (Nat.le_of_ble_eq_true rfl), (Nat.le_of_ble_eq_true rfl)⟩ (Or.inl rfl) sh_0a (ck_10).1 rfl rfl rfl (Nat.le_of_ble_eq_true rfl) (cS_exceptions h G B hB hb hG) ?_
  intro z h1 w
  obtain ⟨f1, a1, G1, e1, r1, g1⟩ := w
  refine l_m (ft_d o_La_c21 2 rfl) rfl ?_
  refine l_callI (K' := k_Mo_exceptions) (b0 := 309) (As := []) (ft_d o_La_c21 3 rfl) rfl ml_La_107 li_Mo_exceptions lw_Mo_exceptions ⟨rfl, rfl, (Nat.le_of_ble_eq_true rfl), (Nat.le_of_ble_eq_true rfl)⟩ (Or.inl rfl) sh_309a (ck_11).1 rfl rfl rfl (Nat.le_of_ble_eq_true rfl) (mS_exceptions h1 G B hB hb (mG_fr f1 hM)) ?_
  intro z2 h2 w2
  obtain ⟨f2, a2, G2, e2, r2, g2⟩ := w2
  obtain ⟨ea, eG⟩ := fn_qI G a1 G1 a2 G2 r1 r2
  have hz : z = z2 := inl_inj ((som_inj e1).symm.trans (ea.trans (som_inj e2)))
  refine l_eqI (ft_d o_La_c21 4 rfl) rfl hz ?_
  exact k h2 G2 ((bd_same (fun _ _ _ r => r.2)) B G a2 G2 hB0 hb r2) (cG_fr f2 (eG ▸ g1)) g2
theorem la_22 {L : Nat} {xs : Nat → Int32} {i : Nat} {B : Int} (hL : L ≤ 3072) (hi : i + 6 ≤ L) (hB0 : 0 ≤ B) (hB : B ≤ 900000000) (k : lK L xs 1318 i (B + 20000)) : lK L xs 767 i B := by
  intro h G hb hG hM
  refine l_x (ft_d o_La_c22 0 rfl) rfl ?_
  refine l_callI (K' := k_FT_targetSize) (b0 := 0) (As := []) (ft_d o_La_c22 1 rfl) rfl ml_La_108 li_FT_targetSize lw_FT_targetSize ⟨rfl, rfl, (Nat.le_of_ble_eq_true rfl), (Nat.le_of_ble_eq_true rfl)⟩ (Or.inl rfl) sh_0a (ck_10).1 rfl rfl rfl (Nat.le_of_ble_eq_true rfl) (cS_targetSize h G B hB hb hG) ?_
  intro z h1 w
  obtain ⟨f1, a1, G1, e1, r1, g1⟩ := w
  refine l_m (ft_d o_La_c22 2 rfl) rfl ?_
  refine l_callI (K' := k_Mo_targetSize) (b0 := 309) (As := []) (ft_d o_La_c22 3 rfl) rfl ml_La_111 li_Mo_targetSize lw_Mo_targetSize ⟨rfl, rfl, (Nat.le_of_ble_eq_true rfl), (Nat.le_of_ble_eq_true rfl)⟩ (Or.inl rfl) sh_309a (ck_11).1 rfl rfl rfl (Nat.le_of_ble_eq_true rfl) (mS_targetSize h1 G B hB hb (mG_fr f1 hM)) ?_
  intro z2 h2 w2
  obtain ⟨f2, a2, G2, e2, r2, g2⟩ := w2
  obtain ⟨ea, eG⟩ := fn_qI G a1 G1 a2 G2 r1 r2
  have hz : z = z2 := inl_inj ((som_inj e1).symm.trans (ea.trans (som_inj e2)))
  refine l_eqI (ft_d o_La_c22 4 rfl) rfl hz ?_
  exact k h2 G2 ((bd_same (fun _ _ _ r => r.2)) B G a2 G2 hB0 hb r2) (cG_fr f2 (eG ▸ g1)) g2
theorem la_23 {L : Nat} {xs : Nat → Int32} {i : Nat} {B : Int} (hL : L ≤ 3072) (hi : i + 6 ≤ L) (hB0 : 0 ≤ B) (hB : B ≤ 900000000) (k : lK L xs 1318 i (B + 20000)) : lK L xs 780 i B := by
  intro h G hb hG hM
  refine l_x (ft_d o_La_c23 0 rfl) rfl ?_
  refine l_arg 1 (ft_d o_La_c23 1 rfl) (ft_d o_La_c23 2 rfl) (ft_d o_La_c23 3 rfl) (ft_d o_La_c23 4 rfl) (ft_d o_La_c23 5 rfl) rfl rfl (Nat.le_of_ble_eq_true rfl) hL hi ?_
  refine l_arg 2 (ft_d o_La_c23 6 rfl) (ft_d o_La_c23 7 rfl) (ft_d o_La_c23 8 rfl) (ft_d o_La_c23 9 rfl) (ft_d o_La_c23 10 rfl) rfl rfl (Nat.le_of_ble_eq_true rfl) hL hi ?_
  refine l_callL (K' := k_FT_target) (b0 := 0) (As := [.inl (xs (i + 1)).toInt, .inl (xs (i + 2)).toInt]) (ft_d o_La_c23 11 rfl) rfl ml_La_112 li_FT_target lw_FT_target ⟨rfl, rfl, (Nat.le_of_ble_eq_true rfl), (Nat.le_of_ble_eq_true rfl)⟩ rfl sh_0a (ck_10).1 rfl rfl rfl (Nat.le_of_ble_eq_true rfl) (cS_target h G B hB hb hG) ?_
  intro z h1 w
  obtain ⟨f1, a1, G1, e1, r1, g1⟩ := w
  refine l_m (ft_d o_La_c23 12 rfl) rfl ?_
  refine l_arg 1 (ft_d o_La_c23 13 rfl) (ft_d o_La_c23 14 rfl) (ft_d o_La_c23 15 rfl) (ft_d o_La_c23 16 rfl) (ft_d o_La_c23 17 rfl) rfl rfl (Nat.le_of_ble_eq_true rfl) hL hi ?_
  refine l_arg 2 (ft_d o_La_c23 18 rfl) (ft_d o_La_c23 19 rfl) (ft_d o_La_c23 20 rfl) (ft_d o_La_c23 21 rfl) (ft_d o_La_c23 22 rfl) rfl rfl (Nat.le_of_ble_eq_true rfl) hL hi ?_
  refine l_callL (K' := k_Mo_target) (b0 := 309) (As := [.inl (xs (i + 1)).toInt, .inl (xs (i + 2)).toInt]) (ft_d o_La_c23 23 rfl) rfl ml_La_115 li_Mo_target lw_Mo_target ⟨rfl, rfl, (Nat.le_of_ble_eq_true rfl), (Nat.le_of_ble_eq_true rfl)⟩ rfl sh_309a (ck_11).1 rfl rfl rfl (Nat.le_of_ble_eq_true rfl) (mS_target h1 G B hB hb (mG_fr f1 hM)) ?_
  intro z2 h2 w2
  obtain ⟨f2, a2, G2, e2, r2, g2⟩ := w2
  obtain ⟨ea, eG⟩ := fn_qL G a1 G1 a2 G2 r1 r2
  have hz : z = z2 := inr_inj ((som_injL e1).symm.trans (ea.trans (som_injL e2)))
  refine l_eqL (ft_d o_La_c23 24 rfl) (ft_d o_La_c23 25 rfl) rfl hz ?_
  exact k h2 G2 ((bd_same (fun _ _ _ r => r.2)) B G a2 G2 hB0 hb r2) (cG_fr f2 (eG ▸ g1)) g2
theorem la_24 {L : Nat} {xs : Nat → Int32} {i : Nat} {B : Int} (hL : L ≤ 3072) (hi : i + 6 ≤ L) (hB0 : 0 ≤ B) (hB : B ≤ 900000000) (k : lK L xs 1318 i (B + 20000)) : lK L xs 814 i B := by
  intro h G hb hG hM
  refine l_x (ft_d o_La_c24 0 rfl) rfl ?_
  refine l_callI (K' := k_FT_lostHits) (b0 := 0) (As := []) (ft_d o_La_c24 1 rfl) rfl ml_La_116 li_FT_lostHits lw_FT_lostHits ⟨rfl, rfl, (Nat.le_of_ble_eq_true rfl), (Nat.le_of_ble_eq_true rfl)⟩ (Or.inl rfl) sh_0a (ck_10).1 rfl rfl rfl (Nat.le_of_ble_eq_true rfl) (cS_lostHits h G B hB hb hG) ?_
  intro z h1 w
  obtain ⟨f1, a1, G1, e1, r1, g1⟩ := w
  refine l_m (ft_d o_La_c24 2 rfl) rfl ?_
  refine l_callI (K' := k_Mo_lostHits) (b0 := 309) (As := []) (ft_d o_La_c24 3 rfl) rfl ml_La_119 li_Mo_lostHits lw_Mo_lostHits ⟨rfl, rfl, (Nat.le_of_ble_eq_true rfl), (Nat.le_of_ble_eq_true rfl)⟩ (Or.inl rfl) sh_309a (ck_11).1 rfl rfl rfl (Nat.le_of_ble_eq_true rfl) (mS_lostHits h1 G B hB hb (mG_fr f1 hM)) ?_
  intro z2 h2 w2
  obtain ⟨f2, a2, G2, e2, r2, g2⟩ := w2
  obtain ⟨ea, eG⟩ := fn_qI G a1 G1 a2 G2 r1 r2
  have hz : z = z2 := inl_inj ((som_inj e1).symm.trans (ea.trans (som_inj e2)))
  refine l_eqI (ft_d o_La_c24 4 rfl) rfl hz ?_
  exact k h2 G2 ((bd_same (fun _ _ _ r => r.2)) B G a2 G2 hB0 hb r2) (cG_fr f2 (eG ▸ g1)) g2
theorem la_25 {L : Nat} {xs : Nat → Int32} {i : Nat} {B : Int} (hL : L ≤ 3072) (hi : i + 6 ≤ L) (hB0 : 0 ≤ B) (hB : B ≤ 900000000) (k : lK L xs 1318 i (B + 20000)) : lK L xs 827 i B := by
  intro h G hb hG hM
  refine l_x (ft_d o_La_c25 0 rfl) rfl ?_
  refine l_arg 1 (ft_d o_La_c25 1 rfl) (ft_d o_La_c25 2 rfl) (ft_d o_La_c25 3 rfl) (ft_d o_La_c25 4 rfl) (ft_d o_La_c25 5 rfl) rfl rfl (Nat.le_of_ble_eq_true rfl) hL hi ?_
  refine l_callI (K' := k_FT_lostHitsWith) (b0 := 0) (As := [.inl (xs (i + 1)).toInt]) (ft_d o_La_c25 6 rfl) rfl ml_La_120 li_FT_lostHitsWith lw_FT_lostHitsWith ⟨rfl, rfl, (Nat.le_of_ble_eq_true rfl), (Nat.le_of_ble_eq_true rfl)⟩ (Or.inl rfl) sh_0a (ck_10).1 rfl rfl rfl (Nat.le_of_ble_eq_true rfl) (cS_lostHitsWith h G B hB hb hG) ?_
  intro z h1 w
  obtain ⟨f1, a1, G1, e1, r1, g1⟩ := w
  refine l_m (ft_d o_La_c25 7 rfl) rfl ?_
  refine l_arg 1 (ft_d o_La_c25 8 rfl) (ft_d o_La_c25 9 rfl) (ft_d o_La_c25 10 rfl) (ft_d o_La_c25 11 rfl) (ft_d o_La_c25 12 rfl) rfl rfl (Nat.le_of_ble_eq_true rfl) hL hi ?_
  refine l_callI (K' := k_Mo_lostHitsWith) (b0 := 309) (As := [.inl (xs (i + 1)).toInt]) (ft_d o_La_c25 13 rfl) rfl ml_La_123 li_Mo_lostHitsWith lw_Mo_lostHitsWith ⟨rfl, rfl, (Nat.le_of_ble_eq_true rfl), (Nat.le_of_ble_eq_true rfl)⟩ (Or.inl rfl) sh_309a (ck_11).1 rfl rfl rfl (Nat.le_of_ble_eq_true rfl) (mS_lostHitsWith h1 G B hB hb (mG_fr f1 hM)) ?_
  intro z2 h2 w2
  obtain ⟨f2, a2, G2, e2, r2, g2⟩ := w2
  obtain ⟨ea, eG⟩ := fn_qI G a1 G1 a2 G2 r1 r2
  have hz : z = z2 := inl_inj ((som_inj e1).symm.trans (ea.trans (som_inj e2)))
  refine l_eqI (ft_d o_La_c25 14 rfl) rfl hz ?_
  exact k h2 G2 ((bd_same (fun _ _ _ r => r.2)) B G a2 G2 hB0 hb r2) (cG_fr f2 (eG ▸ g1)) g2
theorem la_26 {L : Nat} {xs : Nat → Int32} {i : Nat} {B : Int} (hL : L ≤ 3072) (hi : i + 6 ≤ L) (hB0 : 0 ≤ B) (hB : B ≤ 900000000) (k : lK L xs 1318 i (B + 20000)) : lK L xs 850 i B := by
  intro h G hb hG hM
  refine l_x (ft_d o_La_c26 0 rfl) rfl ?_
  refine l_callI (K' := k_FT_enough) (b0 := 0) (As := []) (ft_d o_La_c26 1 rfl) rfl ml_La_124 li_FT_enough lw_FT_enough ⟨rfl, rfl, (Nat.le_of_ble_eq_true rfl), (Nat.le_of_ble_eq_true rfl)⟩ (Or.inl rfl) sh_0a (ck_10).1 rfl rfl rfl (Nat.le_of_ble_eq_true rfl) (cS_enough h G B hB hb hG) ?_
  intro z h1 w
  obtain ⟨f1, a1, G1, e1, r1, g1⟩ := w
  refine l_m (ft_d o_La_c26 2 rfl) rfl ?_
  refine l_callI (K' := k_Mo_enough) (b0 := 309) (As := []) (ft_d o_La_c26 3 rfl) rfl ml_La_127 li_Mo_enough lw_Mo_enough ⟨rfl, rfl, (Nat.le_of_ble_eq_true rfl), (Nat.le_of_ble_eq_true rfl)⟩ (Or.inl rfl) sh_309a (ck_11).1 rfl rfl rfl (Nat.le_of_ble_eq_true rfl) (mS_enough h1 G B hB hb (mG_fr f1 hM)) ?_
  intro z2 h2 w2
  obtain ⟨f2, a2, G2, e2, r2, g2⟩ := w2
  obtain ⟨ea, eG⟩ := fn_qI G a1 G1 a2 G2 r1 r2
  have hz : z = z2 := inl_inj ((som_inj e1).symm.trans (ea.trans (som_inj e2)))
  refine l_eqI (ft_d o_La_c26 4 rfl) rfl hz ?_
  exact k h2 G2 ((bd_same (fun _ _ _ r => r.2)) B G a2 G2 hB0 hb r2) (cG_fr f2 (eG ▸ g1)) g2
theorem la_27 {L : Nat} {xs : Nat → Int32} {i : Nat} {B : Int} (hL : L ≤ 3072) (hi : i + 6 ≤ L) (hB0 : 0 ≤ B) (hB : B ≤ 900000000) (k : lK L xs 1318 i (B + 20000)) : lK L xs 863 i B := by
  intro h G hb hG hM
  refine l_x (ft_d o_La_c27 0 rfl) rfl ?_
  refine l_callI (K' := k_FT_hardwareSize) (b0 := 0) (As := []) (ft_d o_La_c27 1 rfl) rfl ml_La_128 li_FT_hardwareSize lw_FT_hardwareSize ⟨rfl, rfl, (Nat.le_of_ble_eq_true rfl), (Nat.le_of_ble_eq_true rfl)⟩ (Or.inl rfl) sh_0a (ck_10).1 rfl rfl rfl (Nat.le_of_ble_eq_true rfl) (cS_hardwareSize h G B hB hb hG) ?_
  intro z h1 w
  obtain ⟨f1, a1, G1, e1, r1, g1⟩ := w
  refine l_m (ft_d o_La_c27 2 rfl) rfl ?_
  refine l_callI (K' := k_Mo_hardwareSize) (b0 := 309) (As := []) (ft_d o_La_c27 3 rfl) rfl ml_La_131 li_Mo_hardwareSize lw_Mo_hardwareSize ⟨rfl, rfl, (Nat.le_of_ble_eq_true rfl), (Nat.le_of_ble_eq_true rfl)⟩ (Or.inl rfl) sh_309a (ck_11).1 rfl rfl rfl (Nat.le_of_ble_eq_true rfl) (mS_hardwareSize h1 G B hB hb (mG_fr f1 hM)) ?_
  intro z2 h2 w2
  obtain ⟨f2, a2, G2, e2, r2, g2⟩ := w2
  obtain ⟨ea, eG⟩ := fn_qI G a1 G1 a2 G2 r1 r2
  have hz : z = z2 := inl_inj ((som_inj e1).symm.trans (ea.trans (som_inj e2)))
  refine l_eqI (ft_d o_La_c27 4 rfl) rfl hz ?_
  exact k h2 G2 ((bd_same (fun _ _ _ r => r.2)) B G a2 G2 hB0 hb r2) (cG_fr f2 (eG ▸ g1)) g2
theorem la_28 {L : Nat} {xs : Nat → Int32} {i : Nat} {B : Int} (hL : L ≤ 3072) (hi : i + 6 ≤ L) (hB0 : 0 ≤ B) (hB : B ≤ 900000000) (k : lK L xs 1318 i (B + 20000)) : lK L xs 876 i B := by
  intro h G hb hG hM
  refine l_x (ft_d o_La_c28 0 rfl) rfl ?_
  refine l_arg 1 (ft_d o_La_c28 1 rfl) (ft_d o_La_c28 2 rfl) (ft_d o_La_c28 3 rfl) (ft_d o_La_c28 4 rfl) (ft_d o_La_c28 5 rfl) rfl rfl (Nat.le_of_ble_eq_true rfl) hL hi ?_
  refine l_arg 2 (ft_d o_La_c28 6 rfl) (ft_d o_La_c28 7 rfl) (ft_d o_La_c28 8 rfl) (ft_d o_La_c28 9 rfl) (ft_d o_La_c28 10 rfl) rfl rfl (Nat.le_of_ble_eq_true rfl) hL hi ?_
  refine l_callL (K' := k_FT_hardware) (b0 := 0) (As := [.inl (xs (i + 1)).toInt, .inl (xs (i + 2)).toInt]) (ft_d o_La_c28 11 rfl) rfl ml_La_132 li_FT_hardware lw_FT_hardware ⟨rfl, rfl, (Nat.le_of_ble_eq_true rfl), (Nat.le_of_ble_eq_true rfl)⟩ rfl sh_0a (ck_10).1 rfl rfl rfl (Nat.le_of_ble_eq_true rfl) (cS_hardware h G B hB hb hG) ?_
  intro z h1 w
  obtain ⟨f1, a1, G1, e1, r1, g1⟩ := w
  refine l_m (ft_d o_La_c28 12 rfl) rfl ?_
  refine l_arg 1 (ft_d o_La_c28 13 rfl) (ft_d o_La_c28 14 rfl) (ft_d o_La_c28 15 rfl) (ft_d o_La_c28 16 rfl) (ft_d o_La_c28 17 rfl) rfl rfl (Nat.le_of_ble_eq_true rfl) hL hi ?_
  refine l_arg 2 (ft_d o_La_c28 18 rfl) (ft_d o_La_c28 19 rfl) (ft_d o_La_c28 20 rfl) (ft_d o_La_c28 21 rfl) (ft_d o_La_c28 22 rfl) rfl rfl (Nat.le_of_ble_eq_true rfl) hL hi ?_
  refine l_callL (K' := k_Mo_hardware) (b0 := 309) (As := [.inl (xs (i + 1)).toInt, .inl (xs (i + 2)).toInt]) (ft_d o_La_c28 23 rfl) rfl ml_La_135 li_Mo_hardware lw_Mo_hardware ⟨rfl, rfl, (Nat.le_of_ble_eq_true rfl), (Nat.le_of_ble_eq_true rfl)⟩ rfl sh_309a (ck_11).1 rfl rfl rfl (Nat.le_of_ble_eq_true rfl) (mS_hardware h1 G B hB hb (mG_fr f1 hM)) ?_
  intro z2 h2 w2
  obtain ⟨f2, a2, G2, e2, r2, g2⟩ := w2
  obtain ⟨ea, eG⟩ := fn_qL G a1 G1 a2 G2 r1 r2
  have hz : z = z2 := inr_inj ((som_injL e1).symm.trans (ea.trans (som_injL e2)))
  refine l_eqL (ft_d o_La_c28 24 rfl) (ft_d o_La_c28 25 rfl) rfl hz ?_
  exact k h2 G2 ((bd_same (fun _ _ _ r => r.2)) B G a2 G2 hB0 hb r2) (cG_fr f2 (eG ▸ g1)) g2
theorem la_29 {L : Nat} {xs : Nat → Int32} {i : Nat} {B : Int} (hL : L ≤ 3072) (hi : i + 6 ≤ L) (hB0 : 0 ≤ B) (hB : B ≤ 900000000) (k : lK L xs 1318 i (B + 20000)) : lK L xs 910 i B := by
  intro h G hb hG hM
  refine l_x (ft_d o_La_c29 0 rfl) rfl ?_
  refine l_arg 1 (ft_d o_La_c29 1 rfl) (ft_d o_La_c29 2 rfl) (ft_d o_La_c29 3 rfl) (ft_d o_La_c29 4 rfl) (ft_d o_La_c29 5 rfl) rfl rfl (Nat.le_of_ble_eq_true rfl) hL hi ?_
  refine l_callI (K' := k_FT_action) (b0 := 0) (As := [.inl (xs (i + 1)).toInt]) (ft_d o_La_c29 6 rfl) rfl ml_La_136 li_FT_action lw_FT_action ⟨rfl, rfl, (Nat.le_of_ble_eq_true rfl), (Nat.le_of_ble_eq_true rfl)⟩ (Or.inl rfl) sh_0a (ck_10).1 rfl rfl rfl (Nat.le_of_ble_eq_true rfl) (cS_action h G B hB hb hG) ?_
  intro z h1 w
  obtain ⟨f1, a1, G1, e1, r1, g1⟩ := w
  refine l_m (ft_d o_La_c29 7 rfl) rfl ?_
  refine l_arg 1 (ft_d o_La_c29 8 rfl) (ft_d o_La_c29 9 rfl) (ft_d o_La_c29 10 rfl) (ft_d o_La_c29 11 rfl) (ft_d o_La_c29 12 rfl) rfl rfl (Nat.le_of_ble_eq_true rfl) hL hi ?_
  refine l_callI (K' := k_Mo_action) (b0 := 309) (As := [.inl (xs (i + 1)).toInt]) (ft_d o_La_c29 13 rfl) rfl ml_La_139 li_Mo_action lw_Mo_action ⟨rfl, rfl, (Nat.le_of_ble_eq_true rfl), (Nat.le_of_ble_eq_true rfl)⟩ (Or.inl rfl) sh_309a (ck_11).1 rfl rfl rfl (Nat.le_of_ble_eq_true rfl) (mS_action h1 G B hB hb (mG_fr f1 hM)) ?_
  intro z2 h2 w2
  obtain ⟨f2, a2, G2, e2, r2, g2⟩ := w2
  obtain ⟨ea, eG⟩ := fn_qI G a1 G1 a2 G2 r1 r2
  have hz : z = z2 := inl_inj ((som_inj e1).symm.trans (ea.trans (som_inj e2)))
  refine l_eqI (ft_d o_La_c29 14 rfl) rfl hz ?_
  exact k h2 G2 ((bd_same (fun _ _ _ r => r.2)) B G a2 G2 hB0 hb r2) (cG_fr f2 (eG ▸ g1)) g2
theorem la_30 {L : Nat} {xs : Nat → Int32} {i : Nat} {B : Int} (hL : L ≤ 3072) (hi : i + 6 ≤ L) (hB0 : 0 ≤ B) (hB : B ≤ 900000000) (k : lK L xs 1318 i (B + 20000)) : lK L xs 933 i B := by
  intro h G hb hG hM
  refine l_x (ft_d o_La_c30 0 rfl) rfl ?_
  refine l_callI (K' := k_FT_changes) (b0 := 0) (As := []) (ft_d o_La_c30 1 rfl) rfl ml_La_140 li_FT_changes lw_FT_changes ⟨rfl, rfl, (Nat.le_of_ble_eq_true rfl), (Nat.le_of_ble_eq_true rfl)⟩ (Or.inl rfl) sh_0a (ck_10).1 rfl rfl rfl (Nat.le_of_ble_eq_true rfl) (cS_changes h G B hB hb hG) ?_
  intro z h1 w
  obtain ⟨f1, a1, G1, e1, r1, g1⟩ := w
  refine l_m (ft_d o_La_c30 2 rfl) rfl ?_
  refine l_callI (K' := k_Mo_changes) (b0 := 309) (As := []) (ft_d o_La_c30 3 rfl) rfl ml_La_143 li_Mo_changes lw_Mo_changes ⟨rfl, rfl, (Nat.le_of_ble_eq_true rfl), (Nat.le_of_ble_eq_true rfl)⟩ (Or.inl rfl) sh_309a (ck_11).1 rfl rfl rfl (Nat.le_of_ble_eq_true rfl) (mS_changes h1 G B hB hb (mG_fr f1 hM)) ?_
  intro z2 h2 w2
  obtain ⟨f2, a2, G2, e2, r2, g2⟩ := w2
  obtain ⟨ea, eG⟩ := fn_qI G a1 G1 a2 G2 r1 r2
  have hz : z = z2 := inl_inj ((som_inj e1).symm.trans (ea.trans (som_inj e2)))
  refine l_eqI (ft_d o_La_c30 4 rfl) rfl hz ?_
  exact k h2 G2 ((bd_same (fun _ _ _ r => r.2)) B G a2 G2 hB0 hb r2) (cG_fr f2 (eG ▸ g1)) g2
theorem la_31 {L : Nat} {xs : Nat → Int32} {i : Nat} {B : Int} (hL : L ≤ 3072) (hi : i + 6 ≤ L) (hB0 : 0 ≤ B) (hB : B ≤ 900000000) (k : lK L xs 1318 i (B + 20000)) : lK L xs 946 i B := by
  intro h G hb hG hM
  refine l_x (ft_d o_La_c31 0 rfl) rfl ?_
  refine l_arg 1 (ft_d o_La_c31 1 rfl) (ft_d o_La_c31 2 rfl) (ft_d o_La_c31 3 rfl) (ft_d o_La_c31 4 rfl) (ft_d o_La_c31 5 rfl) rfl rfl (Nat.le_of_ble_eq_true rfl) hL hi ?_
  refine l_arg 2 (ft_d o_La_c31 6 rfl) (ft_d o_La_c31 7 rfl) (ft_d o_La_c31 8 rfl) (ft_d o_La_c31 9 rfl) (ft_d o_La_c31 10 rfl) rfl rfl (Nat.le_of_ble_eq_true rfl) hL hi ?_
  refine l_callL (K' := k_FT_change) (b0 := 0) (As := [.inl (xs (i + 1)).toInt, .inl (xs (i + 2)).toInt]) (ft_d o_La_c31 11 rfl) rfl ml_La_144 li_FT_change lw_FT_change ⟨rfl, rfl, (Nat.le_of_ble_eq_true rfl), (Nat.le_of_ble_eq_true rfl)⟩ rfl sh_0a (ck_10).1 rfl rfl rfl (Nat.le_of_ble_eq_true rfl) (cS_change h G B hB hb hG) ?_
  intro z h1 w
  obtain ⟨f1, a1, G1, e1, r1, g1⟩ := w
  refine l_m (ft_d o_La_c31 12 rfl) rfl ?_
  refine l_arg 1 (ft_d o_La_c31 13 rfl) (ft_d o_La_c31 14 rfl) (ft_d o_La_c31 15 rfl) (ft_d o_La_c31 16 rfl) (ft_d o_La_c31 17 rfl) rfl rfl (Nat.le_of_ble_eq_true rfl) hL hi ?_
  refine l_arg 2 (ft_d o_La_c31 18 rfl) (ft_d o_La_c31 19 rfl) (ft_d o_La_c31 20 rfl) (ft_d o_La_c31 21 rfl) (ft_d o_La_c31 22 rfl) rfl rfl (Nat.le_of_ble_eq_true rfl) hL hi ?_
  refine l_callL (K' := k_Mo_change) (b0 := 309) (As := [.inl (xs (i + 1)).toInt, .inl (xs (i + 2)).toInt]) (ft_d o_La_c31 23 rfl) rfl ml_La_147 li_Mo_change lw_Mo_change ⟨rfl, rfl, (Nat.le_of_ble_eq_true rfl), (Nat.le_of_ble_eq_true rfl)⟩ rfl sh_309a (ck_11).1 rfl rfl rfl (Nat.le_of_ble_eq_true rfl) (mS_change h1 G B hB hb (mG_fr f1 hM)) ?_
  intro z2 h2 w2
  obtain ⟨f2, a2, G2, e2, r2, g2⟩ := w2
  obtain ⟨ea, eG⟩ := fn_qL G a1 G1 a2 G2 r1 r2
  have hz : z = z2 := inr_inj ((som_injL e1).symm.trans (ea.trans (som_injL e2)))
  refine l_eqL (ft_d o_La_c31 24 rfl) (ft_d o_La_c31 25 rfl) rfl hz ?_
  exact k h2 G2 ((bd_same (fun _ _ _ r => r.2)) B G a2 G2 hB0 hb r2) (cG_fr f2 (eG ▸ g1)) g2
theorem la_32 {L : Nat} {xs : Nat → Int32} {i : Nat} {B : Int} (hL : L ≤ 3072) (hi : i + 6 ≤ L) (hB0 : 0 ≤ B) (hB : B ≤ 900000000) (k : lK L xs 1318 i (B + 20000)) : lK L xs 980 i B := by
  intro h G hb hG hM
  refine l_x (ft_d o_La_c32 0 rfl) rfl ?_
  refine l_callI (K' := k_FT_missed) (b0 := 0) (As := []) (ft_d o_La_c32 1 rfl) rfl ml_La_148 li_FT_missed lw_FT_missed ⟨rfl, rfl, (Nat.le_of_ble_eq_true rfl), (Nat.le_of_ble_eq_true rfl)⟩ (Or.inl rfl) sh_0a (ck_10).1 rfl rfl rfl (Nat.le_of_ble_eq_true rfl) (cS_missed h G B hB hb hG) ?_
  intro z h1 w
  obtain ⟨f1, a1, G1, e1, r1, g1⟩ := w
  refine l_m (ft_d o_La_c32 2 rfl) rfl ?_
  refine l_callI (K' := k_Mo_missed) (b0 := 309) (As := []) (ft_d o_La_c32 3 rfl) rfl ml_La_151 li_Mo_missed lw_Mo_missed ⟨rfl, rfl, (Nat.le_of_ble_eq_true rfl), (Nat.le_of_ble_eq_true rfl)⟩ (Or.inl rfl) sh_309a (ck_11).1 rfl rfl rfl (Nat.le_of_ble_eq_true rfl) (mS_missed h1 G B hB hb (mG_fr f1 hM)) ?_
  intro z2 h2 w2
  obtain ⟨f2, a2, G2, e2, r2, g2⟩ := w2
  obtain ⟨ea, eG⟩ := fn_qI G a1 G1 a2 G2 r1 r2
  have hz : z = z2 := inl_inj ((som_inj e1).symm.trans (ea.trans (som_inj e2)))
  refine l_eqI (ft_d o_La_c32 4 rfl) rfl hz ?_
  exact k h2 G2 ((bd_same (fun _ _ _ r => r.2)) B G a2 G2 hB0 hb r2) (cG_fr f2 (eG ▸ g1)) g2
theorem la_33 {L : Nat} {xs : Nat → Int32} {i : Nat} {B : Int} (hL : L ≤ 3072) (hi : i + 6 ≤ L) (hB0 : 0 ≤ B) (hB : B ≤ 900000000) (k : lK L xs 1318 i (B + 20000)) : lK L xs 993 i B := by
  intro h G hb hG hM
  refine l_x (ft_d o_La_c33 0 rfl) rfl ?_
  refine l_arg 1 (ft_d o_La_c33 1 rfl) (ft_d o_La_c33 2 rfl) (ft_d o_La_c33 3 rfl) (ft_d o_La_c33 4 rfl) (ft_d o_La_c33 5 rfl) rfl rfl (Nat.le_of_ble_eq_true rfl) hL hi ?_
  refine l_callI (K' := k_FT_missedAfter) (b0 := 0) (As := [.inl (xs (i + 1)).toInt]) (ft_d o_La_c33 6 rfl) rfl ml_La_152 li_FT_missedAfter lw_FT_missedAfter ⟨rfl, rfl, (Nat.le_of_ble_eq_true rfl), (Nat.le_of_ble_eq_true rfl)⟩ (Or.inl rfl) sh_0a (ck_10).1 rfl rfl rfl (Nat.le_of_ble_eq_true rfl) (cS_missedAfter h G B hB hb hG) ?_
  intro z h1 w
  obtain ⟨f1, a1, G1, e1, r1, g1⟩ := w
  refine l_m (ft_d o_La_c33 7 rfl) rfl ?_
  refine l_arg 1 (ft_d o_La_c33 8 rfl) (ft_d o_La_c33 9 rfl) (ft_d o_La_c33 10 rfl) (ft_d o_La_c33 11 rfl) (ft_d o_La_c33 12 rfl) rfl rfl (Nat.le_of_ble_eq_true rfl) hL hi ?_
  refine l_callI (K' := k_Mo_missedAfter) (b0 := 309) (As := [.inl (xs (i + 1)).toInt]) (ft_d o_La_c33 13 rfl) rfl ml_La_155 li_Mo_missedAfter lw_Mo_missedAfter ⟨rfl, rfl, (Nat.le_of_ble_eq_true rfl), (Nat.le_of_ble_eq_true rfl)⟩ (Or.inl rfl) sh_309a (ck_11).1 rfl rfl rfl (Nat.le_of_ble_eq_true rfl) (mS_missedAfter h1 G B hB hb (mG_fr f1 hM)) ?_
  intro z2 h2 w2
  obtain ⟨f2, a2, G2, e2, r2, g2⟩ := w2
  obtain ⟨ea, eG⟩ := fn_qI G a1 G1 a2 G2 r1 r2
  have hz : z = z2 := inl_inj ((som_inj e1).symm.trans (ea.trans (som_inj e2)))
  refine l_eqI (ft_d o_La_c33 14 rfl) rfl hz ?_
  exact k h2 G2 ((bd_same (fun _ _ _ r => r.2)) B G a2 G2 hB0 hb r2) (cG_fr f2 (eG ▸ g1)) g2
theorem la_34 {L : Nat} {xs : Nat → Int32} {i : Nat} {B : Int} (hL : L ≤ 3072) (hi : i + 6 ≤ L) (hB0 : 0 ≤ B) (hB : B ≤ 900000000) (k : lK L xs 1318 i (B + 20000)) : lK L xs 1016 i B := by
  intro h G hb hG hM
  refine l_x (ft_d o_La_c34 0 rfl) rfl ?_
  refine l_arg 1 (ft_d o_La_c34 1 rfl) (ft_d o_La_c34 2 rfl) (ft_d o_La_c34 3 rfl) (ft_d o_La_c34 4 rfl) (ft_d o_La_c34 5 rfl) rfl rfl (Nat.le_of_ble_eq_true rfl) hL hi ?_
  refine l_callI (K' := k_FT_sync) (b0 := 0) (As := [.inl (xs (i + 1)).toInt]) (ft_d o_La_c34 6 rfl) rfl ml_La_156 li_FT_sync lw_FT_sync ⟨rfl, rfl, (Nat.le_of_ble_eq_true rfl), (Nat.le_of_ble_eq_true rfl)⟩ (Or.inl rfl) sh_0a (ck_10).1 rfl rfl rfl (Nat.le_of_ble_eq_true rfl) (cS_sync h G B hB hb hG) ?_
  intro z h1 w
  obtain ⟨f1, a1, G1, e1, r1, g1⟩ := w
  refine l_m (ft_d o_La_c34 7 rfl) rfl ?_
  refine l_arg 1 (ft_d o_La_c34 8 rfl) (ft_d o_La_c34 9 rfl) (ft_d o_La_c34 10 rfl) (ft_d o_La_c34 11 rfl) (ft_d o_La_c34 12 rfl) rfl rfl (Nat.le_of_ble_eq_true rfl) hL hi ?_
  refine l_callI (K' := k_Mo_sync) (b0 := 309) (As := [.inl (xs (i + 1)).toInt]) (ft_d o_La_c34 13 rfl) rfl ml_La_159 li_Mo_sync lw_Mo_sync ⟨rfl, rfl, (Nat.le_of_ble_eq_true rfl), (Nat.le_of_ble_eq_true rfl)⟩ (Or.inl rfl) sh_309a (ck_11).1 rfl rfl rfl (Nat.le_of_ble_eq_true rfl) (mS_sync h1 G B hB hb (mG_fr f1 hM)) ?_
  intro z2 h2 w2
  obtain ⟨f2, a2, G2, e2, r2, g2⟩ := w2
  obtain ⟨ea, eG⟩ := fn_oR G a1 G1 a2 G2 r1 r2
  have hz : z = z2 := inl_inj ((som_inj e1).symm.trans (ea.trans (som_inj e2)))
  refine l_eqI (ft_d o_La_c34 14 rfl) rfl hz ?_
  exact k h2 G2 ((bd_oR (fun _ _ _ x y => aSync_ok x y)) B G a2 G2 hB0 hb r2) (cG_fr f2 (eG ▸ g1)) g2
theorem la_35 {L : Nat} {xs : Nat → Int32} {i : Nat} {B : Int} (hL : L ≤ 3072) (hi : i + 6 ≤ L) (hB0 : 0 ≤ B) (hB : B ≤ 900000000) (k : lK L xs 1318 i (B + 20000)) : lK L xs 1039 i B := by
  intro h G hb hG hM
  refine l_x (ft_d o_La_c35 0 rfl) rfl ?_
  refine l_callI (K' := k_FT_clear) (b0 := 0) (As := []) (ft_d o_La_c35 1 rfl) rfl ml_La_160 li_FT_clear lw_FT_clear ⟨rfl, rfl, (Nat.le_of_ble_eq_true rfl), (Nat.le_of_ble_eq_true rfl)⟩ (Or.inl rfl) sh_0a (ck_10).1 rfl rfl rfl (Nat.le_of_ble_eq_true rfl) (cS_clear h G B hB hb hG) ?_
  intro z h1 w
  obtain ⟨f1, a1, G1, e1, r1, g1⟩ := w
  refine l_m (ft_d o_La_c35 2 rfl) rfl ?_
  refine l_callI (K' := k_Mo_clear) (b0 := 309) (As := []) (ft_d o_La_c35 3 rfl) rfl ml_La_163 li_Mo_clear lw_Mo_clear ⟨rfl, rfl, (Nat.le_of_ble_eq_true rfl), (Nat.le_of_ble_eq_true rfl)⟩ (Or.inl rfl) sh_309a (ck_11).1 rfl rfl rfl (Nat.le_of_ble_eq_true rfl) (mS_clear h1 G B hB hb (mG_fr f1 hM)) ?_
  intro z2 h2 w2
  obtain ⟨f2, a2, G2, e2, r2, g2⟩ := w2
  obtain ⟨ea, eG⟩ := fn_oR G a1 G1 a2 G2 r1 r2
  have hz : z = z2 := inl_inj ((som_inj e1).symm.trans (ea.trans (som_inj e2)))
  refine l_eqI (ft_d o_La_c35 4 rfl) rfl hz ?_
  exact k h2 G2 ((bd_oR (fun _ _ _ x y => (aClr_ok x y).1)) B G a2 G2 hB0 hb r2) (cG_fr f2 (eG ▸ g1)) g2
theorem la_36 {L : Nat} {xs : Nat → Int32} {i : Nat} {B : Int} (hL : L ≤ 3072) (hi : i + 6 ≤ L) (hB0 : 0 ≤ B) (hB : B ≤ 900000000) (k : lK L xs 1318 i (B + 20000)) : lK L xs 1052 i B := by
  intro h G hb hG hM
  refine l_x (ft_d o_La_c36 0 rfl) rfl ?_
  refine l_arg 1 (ft_d o_La_c36 1 rfl) (ft_d o_La_c36 2 rfl) (ft_d o_La_c36 3 rfl) (ft_d o_La_c36 4 rfl) (ft_d o_La_c36 5 rfl) rfl rfl (Nat.le_of_ble_eq_true rfl) hL hi ?_
  refine l_callL (K' := k_FT_addresses) (b0 := 0) (As := [.inl (xs (i + 1)).toInt]) (ft_d o_La_c36 6 rfl) rfl ml_La_164 li_FT_addresses lw_FT_addresses ⟨rfl, rfl, (Nat.le_of_ble_eq_true rfl), (Nat.le_of_ble_eq_true rfl)⟩ rfl sh_0a (ck_10).1 rfl rfl rfl (Nat.le_of_ble_eq_true rfl) (cS_addresses h G B hB hb hG) ?_
  intro z h1 w
  obtain ⟨f1, a1, G1, e1, r1, g1⟩ := w
  refine l_m (ft_d o_La_c36 7 rfl) rfl ?_
  refine l_arg 1 (ft_d o_La_c36 8 rfl) (ft_d o_La_c36 9 rfl) (ft_d o_La_c36 10 rfl) (ft_d o_La_c36 11 rfl) (ft_d o_La_c36 12 rfl) rfl rfl (Nat.le_of_ble_eq_true rfl) hL hi ?_
  refine l_callL (K' := k_Mo_addresses) (b0 := 309) (As := [.inl (xs (i + 1)).toInt]) (ft_d o_La_c36 13 rfl) rfl ml_La_168 li_Mo_addresses lw_Mo_addresses ⟨rfl, rfl, (Nat.le_of_ble_eq_true rfl), (Nat.le_of_ble_eq_true rfl)⟩ rfl sh_309a (ck_11).1 rfl rfl rfl (Nat.le_of_ble_eq_true rfl) (mS_addresses h1 G B hB hb (mG_fr f1 hM)) ?_
  intro z2 h2 w2
  obtain ⟨f2, a2, G2, e2, r2, g2⟩ := w2
  obtain ⟨ea, eG⟩ := fn_qL G a1 G1 a2 G2 r1 r2
  have hz : z = z2 := inr_inj ((som_injL e1).symm.trans (ea.trans (som_injL e2)))
  refine l_eqL (ft_d o_La_c36 14 rfl) (ft_d o_La_c36 15 rfl) rfl hz ?_
  exact k h2 G2 ((bd_same (fun _ _ _ r => r.2)) B G a2 G2 hB0 hb r2) (cG_fr f2 (eG ▸ g1)) g2
theorem la_37 {L : Nat} {xs : Nat → Int32} {i : Nat} {B : Int} (hL : L ≤ 3072) (hi : i + 6 ≤ L) (hB0 : 0 ≤ B) (hB : B ≤ 900000000) (k : lK L xs 1318 i (B + 20000)) : lK L xs 1076 i B := by
  intro h G hb hG hM
  refine l_x (ft_d o_La_c37 0 rfl) rfl ?_
  refine l_callL (K' := k_FT_hardwareAddresses) (b0 := 0) (As := []) (ft_d o_La_c37 1 rfl) rfl ml_La_169 li_FT_hardwareAddresses lw_FT_hardwareAddresses ⟨rfl, rfl, (Nat.le_of_ble_eq_true rfl), (Nat.le_of_ble_eq_true rfl)⟩ rfl sh_0a (ck_10).1 rfl rfl rfl (Nat.le_of_ble_eq_true rfl) (cS_hardwareAddresses h G B hB hb hG) ?_
  intro z h1 w
  obtain ⟨f1, a1, G1, e1, r1, g1⟩ := w
  refine l_m (ft_d o_La_c37 2 rfl) rfl ?_
  refine l_callL (K' := k_Mo_hardwareAddresses) (b0 := 309) (As := []) (ft_d o_La_c37 3 rfl) rfl ml_La_173 li_Mo_hardwareAddresses lw_Mo_hardwareAddresses ⟨rfl, rfl, (Nat.le_of_ble_eq_true rfl), (Nat.le_of_ble_eq_true rfl)⟩ rfl sh_309a (ck_11).1 rfl rfl rfl (Nat.le_of_ble_eq_true rfl) (mS_hardwareAddresses h1 G B hB hb (mG_fr f1 hM)) ?_
  intro z2 h2 w2
  obtain ⟨f2, a2, G2, e2, r2, g2⟩ := w2
  obtain ⟨ea, eG⟩ := fn_qL G a1 G1 a2 G2 r1 r2
  have hz : z = z2 := inr_inj ((som_injL e1).symm.trans (ea.trans (som_injL e2)))
  refine l_eqL (ft_d o_La_c37 4 rfl) (ft_d o_La_c37 5 rfl) rfl hz ?_
  exact k h2 G2 ((bd_same (fun _ _ _ r => r.2)) B G a2 G2 hB0 hb r2) (cG_fr f2 (eG ▸ g1)) g2
theorem la_38 {L : Nat} {xs : Nat → Int32} {i : Nat} {B : Int} (hL : L ≤ 3072) (hi : i + 6 ≤ L) (hB0 : 0 ≤ B) (hB : B ≤ 900000000) (k : lK L xs 1318 i (B + 20000)) : lK L xs 1090 i B := by
  intro h G hb hG hM
  refine l_x (ft_d o_La_c38 0 rfl) rfl ?_
  refine l_arg 1 (ft_d o_La_c38 1 rfl) (ft_d o_La_c38 2 rfl) (ft_d o_La_c38 3 rfl) (ft_d o_La_c38 4 rfl) (ft_d o_La_c38 5 rfl) rfl rfl (Nat.le_of_ble_eq_true rfl) hL hi ?_
  refine l_callL (K' := k_FT_nextOther) (b0 := 0) (As := [.inl (xs (i + 1)).toInt]) (ft_d o_La_c38 6 rfl) rfl ml_La_174 li_FT_nextOther lw_FT_nextOther ⟨rfl, rfl, (Nat.le_of_ble_eq_true rfl), (Nat.le_of_ble_eq_true rfl)⟩ rfl sh_0a (ck_10).1 rfl rfl rfl (Nat.le_of_ble_eq_true rfl) (cS_nextOther h G B hB hb hG) ?_
  intro z h1 w
  obtain ⟨f1, a1, G1, e1, r1, g1⟩ := w
  refine l_m (ft_d o_La_c38 7 rfl) rfl ?_
  refine l_arg 1 (ft_d o_La_c38 8 rfl) (ft_d o_La_c38 9 rfl) (ft_d o_La_c38 10 rfl) (ft_d o_La_c38 11 rfl) (ft_d o_La_c38 12 rfl) rfl rfl (Nat.le_of_ble_eq_true rfl) hL hi ?_
  refine l_callL (K' := k_Mo_nextOther) (b0 := 309) (As := [.inl (xs (i + 1)).toInt]) (ft_d o_La_c38 13 rfl) rfl ml_La_177 li_Mo_nextOther lw_Mo_nextOther ⟨rfl, rfl, (Nat.le_of_ble_eq_true rfl), (Nat.le_of_ble_eq_true rfl)⟩ rfl sh_309a (ck_11).1 rfl rfl rfl (Nat.le_of_ble_eq_true rfl) (mS_nextOther h1 G B hB hb (mG_fr f1 hM)) ?_
  intro z2 h2 w2
  obtain ⟨f2, a2, G2, e2, r2, g2⟩ := w2
  obtain ⟨ea, eG⟩ := fn_Nxt G a1 G1 a2 G2 r1 r2
  have hz : z = z2 := inr_inj ((som_injL e1).symm.trans (ea.trans (som_injL e2)))
  refine l_eqL (ft_d o_La_c38 14 rfl) (ft_d o_La_c38 15 rfl) rfl hz ?_
  exact k h2 G2 ((bd_same (fun _ _ _ r => r.2)) B G a2 G2 hB0 hb r2) (cG_fr f2 (eG ▸ g1)) g2
theorem la_39 {L : Nat} {xs : Nat → Int32} {i : Nat} {B : Int} (hL : L ≤ 3072) (hi : i + 6 ≤ L) (hB0 : 0 ≤ B) (hB : B ≤ 900000000) (k : lK L xs 1318 i (B + 20000)) : lK L xs 1114 i B := by
  intro h G hb hG hM
  refine l_x (ft_d o_La_c39 0 rfl) rfl ?_
  refine l_callI (K' := k_FT_runs) (b0 := 0) (As := []) (ft_d o_La_c39 1 rfl) rfl ml_La_178 li_FT_runs lw_FT_runs ⟨rfl, rfl, (Nat.le_of_ble_eq_true rfl), (Nat.le_of_ble_eq_true rfl)⟩ (Or.inl rfl) sh_0a (ck_10).1 rfl rfl rfl (Nat.le_of_ble_eq_true rfl) (cS_runs h G B hB hb hG) ?_
  intro z h1 w
  obtain ⟨f1, a1, G1, e1, r1, g1⟩ := w
  refine l_m (ft_d o_La_c39 2 rfl) rfl ?_
  refine l_callI (K' := k_Mo_runs) (b0 := 309) (As := []) (ft_d o_La_c39 3 rfl) rfl ml_La_181 li_Mo_runs lw_Mo_runs ⟨rfl, rfl, (Nat.le_of_ble_eq_true rfl), (Nat.le_of_ble_eq_true rfl)⟩ (Or.inl rfl) sh_309a (ck_11).1 rfl rfl rfl (Nat.le_of_ble_eq_true rfl) (mS_runs h1 G B hB hb (mG_fr f1 hM)) ?_
  intro z2 h2 w2
  obtain ⟨f2, a2, G2, e2, r2, g2⟩ := w2
  obtain ⟨ea, eG⟩ := fn_qI G a1 G1 a2 G2 r1 r2
  have hz : z = z2 := inl_inj ((som_inj e1).symm.trans (ea.trans (som_inj e2)))
  refine l_eqI (ft_d o_La_c39 4 rfl) rfl hz ?_
  exact k h2 G2 ((bd_same (fun _ _ _ r => r.2)) B G a2 G2 hB0 hb r2) (cG_fr f2 (eG ▸ g1)) g2
theorem la_40 {L : Nat} {xs : Nat → Int32} {i : Nat} {B : Int} (hL : L ≤ 3072) (hi : i + 6 ≤ L) (hB0 : 0 ≤ B) (hB : B ≤ 900000000) (k : lK L xs 1318 i (B + 20000)) : lK L xs 1127 i B := by
  intro h G hb hG hM
  refine l_x (ft_d o_La_c40 0 rfl) rfl ?_
  refine l_arg 1 (ft_d o_La_c40 1 rfl) (ft_d o_La_c40 2 rfl) (ft_d o_La_c40 3 rfl) (ft_d o_La_c40 4 rfl) (ft_d o_La_c40 5 rfl) rfl rfl (Nat.le_of_ble_eq_true rfl) hL hi ?_
  refine l_callI (K' := k_FT_isRedundant) (b0 := 0) (As := [.inl (xs (i + 1)).toInt]) (ft_d o_La_c40 6 rfl) rfl ml_La_182 li_FT_isRedundant lw_FT_isRedundant ⟨rfl, rfl, (Nat.le_of_ble_eq_true rfl), (Nat.le_of_ble_eq_true rfl)⟩ (Or.inr rfl) sh_0a (ck_10).1 rfl rfl rfl (Nat.le_of_ble_eq_true rfl) (cS_isRedundant h G B hB hb hG) ?_
  intro z h1 w
  obtain ⟨f1, a1, G1, e1, r1, g1⟩ := w
  refine l_m (ft_d o_La_c40 7 rfl) rfl ?_
  refine l_arg 1 (ft_d o_La_c40 8 rfl) (ft_d o_La_c40 9 rfl) (ft_d o_La_c40 10 rfl) (ft_d o_La_c40 11 rfl) (ft_d o_La_c40 12 rfl) rfl rfl (Nat.le_of_ble_eq_true rfl) hL hi ?_
  refine l_callI (K' := k_Mo_isRedundant) (b0 := 309) (As := [.inl (xs (i + 1)).toInt]) (ft_d o_La_c40 13 rfl) rfl ml_La_185 li_Mo_isRedundant lw_Mo_isRedundant ⟨rfl, rfl, (Nat.le_of_ble_eq_true rfl), (Nat.le_of_ble_eq_true rfl)⟩ (Or.inr rfl) sh_309a (ck_11).1 rfl rfl rfl (Nat.le_of_ble_eq_true rfl) (mS_isRedundant h1 G B hB hb (mG_fr f1 hM)) ?_
  intro z2 h2 w2
  obtain ⟨f2, a2, G2, e2, r2, g2⟩ := w2
  obtain ⟨ea, eG⟩ := fn_qI G a1 G1 a2 G2 r1 r2
  have hz : z = z2 := inl_inj ((som_inj e1).symm.trans (ea.trans (som_inj e2)))
  refine l_eqI (ft_d o_La_c40 14 rfl) rfl hz ?_
  exact k h2 G2 ((bd_same (fun _ _ _ r => r.2)) B G a2 G2 hB0 hb r2) (cG_fr f2 (eG ▸ g1)) g2
theorem la_41 {L : Nat} {xs : Nat → Int32} {i : Nat} {B : Int} (hL : L ≤ 3072) (hi : i + 6 ≤ L) (hB0 : 0 ≤ B) (hB : B ≤ 900000000) (k : lK L xs 1318 i (B + 20000)) : lK L xs 1150 i B := by
  intro h G hb hG hM
  refine l_x (ft_d o_La_c41 0 rfl) rfl ?_
  refine l_callI (K' := k_FT_redundant) (b0 := 0) (As := []) (ft_d o_La_c41 1 rfl) rfl ml_La_186 li_FT_redundant lw_FT_redundant ⟨rfl, rfl, (Nat.le_of_ble_eq_true rfl), (Nat.le_of_ble_eq_true rfl)⟩ (Or.inl rfl) sh_0a (ck_10).1 rfl rfl rfl (Nat.le_of_ble_eq_true rfl) (cS_redundant h G B hB hb hG) ?_
  intro z h1 w
  obtain ⟨f1, a1, G1, e1, r1, g1⟩ := w
  refine l_m (ft_d o_La_c41 2 rfl) rfl ?_
  refine l_callI (K' := k_Mo_redundant) (b0 := 309) (As := []) (ft_d o_La_c41 3 rfl) rfl ml_La_189 li_Mo_redundant lw_Mo_redundant ⟨rfl, rfl, (Nat.le_of_ble_eq_true rfl), (Nat.le_of_ble_eq_true rfl)⟩ (Or.inl rfl) sh_309a (ck_11).1 rfl rfl rfl (Nat.le_of_ble_eq_true rfl) (mS_redundant h1 G B hB hb (mG_fr f1 hM)) ?_
  intro z2 h2 w2
  obtain ⟨f2, a2, G2, e2, r2, g2⟩ := w2
  obtain ⟨ea, eG⟩ := fn_qI G a1 G1 a2 G2 r1 r2
  have hz : z = z2 := inl_inj ((som_inj e1).symm.trans (ea.trans (som_inj e2)))
  refine l_eqI (ft_d o_La_c41 4 rfl) rfl hz ?_
  exact k h2 G2 ((bd_same (fun _ _ _ r => r.2)) B G a2 G2 hB0 hb r2) (cG_fr f2 (eG ▸ g1)) g2
theorem la_42 {L : Nat} {xs : Nat → Int32} {i : Nat} {B : Int} (hL : L ≤ 3072) (hi : i + 6 ≤ L) (hB0 : 0 ≤ B) (hB : B ≤ 900000000) (k : lK L xs 1318 i (B + 20000)) : lK L xs 1163 i B := by
  intro h G hb hG hM
  refine l_x (ft_d o_La_c42 0 rfl) rfl ?_
  refine l_callI (K' := k_FT_nesting) (b0 := 0) (As := []) (ft_d o_La_c42 1 rfl) rfl ml_La_190 li_FT_nesting lw_FT_nesting ⟨rfl, rfl, (Nat.le_of_ble_eq_true rfl), (Nat.le_of_ble_eq_true rfl)⟩ (Or.inl rfl) sh_0a (ck_10).1 rfl rfl rfl (Nat.le_of_ble_eq_true rfl) (cS_nesting h G B hB hb hG) ?_
  intro z h1 w
  obtain ⟨f1, a1, G1, e1, r1, g1⟩ := w
  refine l_m (ft_d o_La_c42 2 rfl) rfl ?_
  refine l_callI (K' := k_Mo_nesting) (b0 := 309) (As := []) (ft_d o_La_c42 3 rfl) rfl ml_La_193 li_Mo_nesting lw_Mo_nesting ⟨rfl, rfl, (Nat.le_of_ble_eq_true rfl), (Nat.le_of_ble_eq_true rfl)⟩ (Or.inl rfl) sh_309a (ck_11).1 rfl rfl rfl (Nat.le_of_ble_eq_true rfl) (mS_nesting h1 G B hB hb (mG_fr f1 hM)) ?_
  intro z2 h2 w2
  obtain ⟨f2, a2, G2, e2, r2, g2⟩ := w2
  obtain ⟨ea, eG⟩ := fn_qI G a1 G1 a2 G2 r1 r2
  have hz : z = z2 := inl_inj ((som_inj e1).symm.trans (ea.trans (som_inj e2)))
  refine l_eqI (ft_d o_La_c42 4 rfl) rfl hz ?_
  exact k h2 G2 ((bd_same (fun _ _ _ r => r.2)) B G a2 G2 hB0 hb r2) (cG_fr f2 (eG ▸ g1)) g2
theorem la_43 {L : Nat} {xs : Nat → Int32} {i : Nat} {B : Int} (hL : L ≤ 3072) (hi : i + 6 ≤ L) (hB0 : 0 ≤ B) (hB : B ≤ 900000000) (k : lK L xs 1318 i (B + 20000)) : lK L xs 1176 i B := by
  intro h G hb hG hM
  refine l_x (ft_d o_La_c43 0 rfl) rfl ?_
  refine l_arg 1 (ft_d o_La_c43 1 rfl) (ft_d o_La_c43 2 rfl) (ft_d o_La_c43 3 rfl) (ft_d o_La_c43 4 rfl) (ft_d o_La_c43 5 rfl) rfl rfl (Nat.le_of_ble_eq_true rfl) hL hi ?_
  refine l_callI (K' := k_FT_compressedWithout) (b0 := 0) (As := [.inl (xs (i + 1)).toInt]) (ft_d o_La_c43 6 rfl) rfl ml_La_194 li_FT_compressedWithout lw_FT_compressedWithout ⟨rfl, rfl, (Nat.le_of_ble_eq_true rfl), (Nat.le_of_ble_eq_true rfl)⟩ (Or.inl rfl) sh_0a (ck_10).1 rfl rfl rfl (Nat.le_of_ble_eq_true rfl) (cS_compressedWithout h G B hB hb hG) ?_
  intro z h1 w
  obtain ⟨f1, a1, G1, e1, r1, g1⟩ := w
  refine l_m (ft_d o_La_c43 7 rfl) rfl ?_
  refine l_arg 1 (ft_d o_La_c43 8 rfl) (ft_d o_La_c43 9 rfl) (ft_d o_La_c43 10 rfl) (ft_d o_La_c43 11 rfl) (ft_d o_La_c43 12 rfl) rfl rfl (Nat.le_of_ble_eq_true rfl) hL hi ?_
  refine l_callI (K' := k_Mo_compressedWithout) (b0 := 309) (As := [.inl (xs (i + 1)).toInt]) (ft_d o_La_c43 13 rfl) rfl ml_La_197 li_Mo_compressedWithout lw_Mo_compressedWithout ⟨rfl, rfl, (Nat.le_of_ble_eq_true rfl), (Nat.le_of_ble_eq_true rfl)⟩ (Or.inl rfl) sh_309a (ck_11).1 rfl rfl rfl (Nat.le_of_ble_eq_true rfl) (mS_compressedWithout h1 G B hB hb (mG_fr f1 hM)) ?_
  intro z2 h2 w2
  obtain ⟨f2, a2, G2, e2, r2, g2⟩ := w2
  obtain ⟨ea, eG⟩ := fn_qI G a1 G1 a2 G2 r1 r2
  have hz : z = z2 := inl_inj ((som_inj e1).symm.trans (ea.trans (som_inj e2)))
  refine l_eqI (ft_d o_La_c43 14 rfl) rfl hz ?_
  exact k h2 G2 ((bd_same (fun _ _ _ r => r.2)) B G a2 G2 hB0 hb r2) (cG_fr f2 (eG ▸ g1)) g2
theorem la_44 {L : Nat} {xs : Nat → Int32} {i : Nat} {B : Int} (hL : L ≤ 3072) (hi : i + 6 ≤ L) (hB0 : 0 ≤ B) (hB : B ≤ 900000000) (k : lK L xs 1318 i (B + 20000)) : lK L xs 1199 i B := by
  intro h G hb hG hM
  refine l_x (ft_d o_La_c44 0 rfl) rfl ?_
  refine l_callI (K' := k_FT_costliest) (b0 := 0) (As := []) (ft_d o_La_c44 1 rfl) rfl ml_La_198 li_FT_costliest lw_FT_costliest ⟨rfl, rfl, (Nat.le_of_ble_eq_true rfl), (Nat.le_of_ble_eq_true rfl)⟩ (Or.inl rfl) sh_0a (ck_10).1 rfl rfl rfl (Nat.le_of_ble_eq_true rfl) (cS_costliest h G B hB hb hG) ?_
  intro z h1 w
  obtain ⟨f1, a1, G1, e1, r1, g1⟩ := w
  refine l_m (ft_d o_La_c44 2 rfl) rfl ?_
  refine l_callI (K' := k_Mo_costliest) (b0 := 309) (As := []) (ft_d o_La_c44 3 rfl) rfl ml_La_201 li_Mo_costliest lw_Mo_costliest ⟨rfl, rfl, (Nat.le_of_ble_eq_true rfl), (Nat.le_of_ble_eq_true rfl)⟩ (Or.inl rfl) sh_309a (ck_11).1 rfl rfl rfl (Nat.le_of_ble_eq_true rfl) (mS_costliest h1 G B hB hb (mG_fr f1 hM)) ?_
  intro z2 h2 w2
  obtain ⟨f2, a2, G2, e2, r2, g2⟩ := w2
  obtain ⟨ea, eG⟩ := fn_qI G a1 G1 a2 G2 r1 r2
  have hz : z = z2 := inl_inj ((som_inj e1).symm.trans (ea.trans (som_inj e2)))
  refine l_eqI (ft_d o_La_c44 4 rfl) rfl hz ?_
  exact k h2 G2 ((bd_same (fun _ _ _ r => r.2)) B G a2 G2 hB0 hb r2) (cG_fr f2 (eG ▸ g1)) g2
theorem la_45 {L : Nat} {xs : Nat → Int32} {i : Nat} {B : Int} (hL : L ≤ 3072) (hi : i + 6 ≤ L) (hB0 : 0 ≤ B) (hB : B ≤ 900000000) (k : lK L xs 1318 i (B + 20000)) : lK L xs 1212 i B := by
  intro h G hb hG hM
  refine l_x (ft_d o_La_c45 0 rfl) rfl ?_
  refine l_arg 1 (ft_d o_La_c45 1 rfl) (ft_d o_La_c45 2 rfl) (ft_d o_La_c45 3 rfl) (ft_d o_La_c45 4 rfl) (ft_d o_La_c45 5 rfl) rfl rfl (Nat.le_of_ble_eq_true rfl) hL hi ?_
  refine l_callL (K' := k_FT_count) (b0 := 0) (As := [.inl (xs (i + 1)).toInt]) (ft_d o_La_c45 6 rfl) rfl ml_La_202 li_FT_count lw_FT_count ⟨rfl, rfl, (Nat.le_of_ble_eq_true rfl), (Nat.le_of_ble_eq_true rfl)⟩ rfl sh_0a (ck_10).1 rfl rfl rfl (Nat.le_of_ble_eq_true rfl) (cS_count h G B hB hb hG) ?_
  intro z h1 w
  obtain ⟨f1, a1, G1, e1, r1, g1⟩ := w
  refine l_m (ft_d o_La_c45 7 rfl) rfl ?_
  refine l_arg 1 (ft_d o_La_c45 8 rfl) (ft_d o_La_c45 9 rfl) (ft_d o_La_c45 10 rfl) (ft_d o_La_c45 11 rfl) (ft_d o_La_c45 12 rfl) rfl rfl (Nat.le_of_ble_eq_true rfl) hL hi ?_
  refine l_callL (K' := k_Mo_count) (b0 := 309) (As := [.inl (xs (i + 1)).toInt]) (ft_d o_La_c45 13 rfl) rfl ml_La_205 li_Mo_count lw_Mo_count ⟨rfl, rfl, (Nat.le_of_ble_eq_true rfl), (Nat.le_of_ble_eq_true rfl)⟩ rfl sh_309a (ck_11).1 rfl rfl rfl (Nat.le_of_ble_eq_true rfl) (mS_count h1 G B hB hb (mG_fr f1 hM)) ?_
  intro z2 h2 w2
  obtain ⟨f2, a2, G2, e2, r2, g2⟩ := w2
  obtain ⟨ea, eG⟩ := fn_qL G a1 G1 a2 G2 r1 r2
  have hz : z = z2 := inr_inj ((som_injL e1).symm.trans (ea.trans (som_injL e2)))
  refine l_eqL (ft_d o_La_c45 14 rfl) (ft_d o_La_c45 15 rfl) rfl hz ?_
  exact k h2 G2 ((bd_same (fun _ _ _ r => r.2)) B G a2 G2 hB0 hb r2) (cG_fr f2 (eG ▸ g1)) g2
theorem la_46 {L : Nat} {xs : Nat → Int32} {i : Nat} {B : Int} (hL : L ≤ 3072) (hi : i + 6 ≤ L) (hB0 : 0 ≤ B) (hB : B ≤ 900000000) (k : lK L xs 1318 i (B + 20000)) : lK L xs 1236 i B := by
  intro h G hb hG hM
  refine l_x (ft_d o_La_c46 0 rfl) rfl ?_
  refine l_callI (K' := k_FT_undo) (b0 := 0) (As := []) (ft_d o_La_c46 1 rfl) rfl ml_La_206 li_FT_undo lw_FT_undo ⟨rfl, rfl, (Nat.le_of_ble_eq_true rfl), (Nat.le_of_ble_eq_true rfl)⟩ (Or.inl rfl) sh_0a (ck_10).1 rfl rfl rfl (Nat.le_of_ble_eq_true rfl) (cS_undo h G B hB hb hG) ?_
  intro z h1 w
  obtain ⟨f1, a1, G1, e1, r1, g1⟩ := w
  refine l_m (ft_d o_La_c46 2 rfl) rfl ?_
  refine l_callI (K' := k_Mo_undo) (b0 := 309) (As := []) (ft_d o_La_c46 3 rfl) rfl ml_La_209 li_Mo_undo lw_Mo_undo ⟨rfl, rfl, (Nat.le_of_ble_eq_true rfl), (Nat.le_of_ble_eq_true rfl)⟩ (Or.inl rfl) sh_309a (ck_11).1 rfl rfl rfl (Nat.le_of_ble_eq_true rfl) (mS_undo h1 G B hB hb (mG_fr f1 hM)) ?_
  intro z2 h2 w2
  obtain ⟨f2, a2, G2, e2, r2, g2⟩ := w2
  obtain ⟨ea, eG⟩ := fn_Und G a1 G1 a2 G2 r1 r2
  have hz : z = z2 := inl_inj ((som_inj e1).symm.trans (ea.trans (som_inj e2)))
  refine l_eqI (ft_d o_La_c46 4 rfl) rfl hz ?_
  exact k h2 G2 (bd_Und B G a2 G2 hB0 hb r2) (cG_fr f2 (eG ▸ g1)) g2
theorem la_47 {L : Nat} {xs : Nat → Int32} {i : Nat} {B : Int} (hL : L ≤ 3072) (hi : i + 6 ≤ L) (hB0 : 0 ≤ B) (hB : B ≤ 900000000) (k : lK L xs 1318 i (B + 20000)) : lK L xs 1249 i B := by
  intro h G hb hG hM
  refine l_x (ft_d o_La_c47 0 rfl) rfl ?_
  refine l_arg 1 (ft_d o_La_c47 1 rfl) (ft_d o_La_c47 2 rfl) (ft_d o_La_c47 3 rfl) (ft_d o_La_c47 4 rfl) (ft_d o_La_c47 5 rfl) rfl rfl (Nat.le_of_ble_eq_true rfl) hL hi ?_
  refine l_callI (K' := k_FT_reportLength) (b0 := 0) (As := [.inl (xs (i + 1)).toInt]) (ft_d o_La_c47 6 rfl) rfl ml_La_210 li_FT_reportLength lw_FT_reportLength ⟨rfl, rfl, (Nat.le_of_ble_eq_true rfl), (Nat.le_of_ble_eq_true rfl)⟩ (Or.inl rfl) sh_0a (ck_10).1 rfl rfl rfl (Nat.le_of_ble_eq_true rfl) (cS_reportLength h G B hB hb hG) ?_
  intro z h1 w
  obtain ⟨f1, a1, G1, e1, r1, g1⟩ := w
  refine l_m (ft_d o_La_c47 7 rfl) rfl ?_
  refine l_arg 1 (ft_d o_La_c47 8 rfl) (ft_d o_La_c47 9 rfl) (ft_d o_La_c47 10 rfl) (ft_d o_La_c47 11 rfl) (ft_d o_La_c47 12 rfl) rfl rfl (Nat.le_of_ble_eq_true rfl) hL hi ?_
  refine l_callI (K' := k_Mo_reportLength) (b0 := 309) (As := [.inl (xs (i + 1)).toInt]) (ft_d o_La_c47 13 rfl) rfl ml_La_213 li_Mo_reportLength lw_Mo_reportLength ⟨rfl, rfl, (Nat.le_of_ble_eq_true rfl), (Nat.le_of_ble_eq_true rfl)⟩ (Or.inl rfl) sh_309a (ck_11).1 rfl rfl rfl (Nat.le_of_ble_eq_true rfl) (mS_reportLength h1 G B hB hb (mG_fr f1 hM)) ?_
  intro z2 h2 w2
  obtain ⟨f2, a2, G2, e2, r2, g2⟩ := w2
  obtain ⟨ea, eG⟩ := fn_qI G a1 G1 a2 G2 r1 r2
  have hz : z = z2 := inl_inj ((som_inj e1).symm.trans (ea.trans (som_inj e2)))
  refine l_eqI (ft_d o_La_c47 14 rfl) rfl hz ?_
  exact k h2 G2 ((bd_same (fun _ _ _ r => r.2)) B G a2 G2 hB0 hb r2) (cG_fr f2 (eG ▸ g1)) g2
theorem la_48 {L : Nat} {xs : Nat → Int32} {i : Nat} {B : Int} (hL : L ≤ 3072) (hi : i + 6 ≤ L) (hB0 : 0 ≤ B) (hB : B ≤ 900000000) (k : lK L xs 1318 i (B + 20000)) : lK L xs 1272 i B := by
  intro h G hb hG hM
  refine l_x (ft_d o_La_c48 0 rfl) rfl ?_
  refine l_arg 1 (ft_d o_La_c48 1 rfl) (ft_d o_La_c48 2 rfl) (ft_d o_La_c48 3 rfl) (ft_d o_La_c48 4 rfl) (ft_d o_La_c48 5 rfl) rfl rfl (Nat.le_of_ble_eq_true rfl) hL hi ?_
  refine l_arg 2 (ft_d o_La_c48 6 rfl) (ft_d o_La_c48 7 rfl) (ft_d o_La_c48 8 rfl) (ft_d o_La_c48 9 rfl) (ft_d o_La_c48 10 rfl) rfl rfl (Nat.le_of_ble_eq_true rfl) hL hi ?_
  refine l_callI (K' := k_FT_reportByte) (b0 := 0) (As := [.inl (xs (i + 1)).toInt, .inl (xs (i + 2)).toInt]) (ft_d o_La_c48 11 rfl) rfl ml_La_214 li_FT_reportByte lw_FT_reportByte ⟨rfl, rfl, (Nat.le_of_ble_eq_true rfl), (Nat.le_of_ble_eq_true rfl)⟩ (Or.inl rfl) sh_0a (ck_10).1 rfl rfl rfl (Nat.le_of_ble_eq_true rfl) (cS_reportByte h G B hB hb hG) ?_
  intro z h1 w
  obtain ⟨f1, a1, G1, e1, r1, g1⟩ := w
  refine l_m (ft_d o_La_c48 12 rfl) rfl ?_
  refine l_arg 1 (ft_d o_La_c48 13 rfl) (ft_d o_La_c48 14 rfl) (ft_d o_La_c48 15 rfl) (ft_d o_La_c48 16 rfl) (ft_d o_La_c48 17 rfl) rfl rfl (Nat.le_of_ble_eq_true rfl) hL hi ?_
  refine l_arg 2 (ft_d o_La_c48 18 rfl) (ft_d o_La_c48 19 rfl) (ft_d o_La_c48 20 rfl) (ft_d o_La_c48 21 rfl) (ft_d o_La_c48 22 rfl) rfl rfl (Nat.le_of_ble_eq_true rfl) hL hi ?_
  refine l_callI (K' := k_Mo_reportByte) (b0 := 309) (As := [.inl (xs (i + 1)).toInt, .inl (xs (i + 2)).toInt]) (ft_d o_La_c48 23 rfl) rfl ml_La_217 li_Mo_reportByte lw_Mo_reportByte ⟨rfl, rfl, (Nat.le_of_ble_eq_true rfl), (Nat.le_of_ble_eq_true rfl)⟩ (Or.inl rfl) sh_309a (ck_11).1 rfl rfl rfl (Nat.le_of_ble_eq_true rfl) (mS_reportByte h1 G B hB hb (mG_fr f1 hM)) ?_
  intro z2 h2 w2
  obtain ⟨f2, a2, G2, e2, r2, g2⟩ := w2
  obtain ⟨ea, eG⟩ := fn_qI G a1 G1 a2 G2 r1 r2
  have hz : z = z2 := inl_inj ((som_inj e1).symm.trans (ea.trans (som_inj e2)))
  refine l_eqI (ft_d o_La_c48 24 rfl) rfl hz ?_
  exact k h2 G2 ((bd_same (fun _ _ _ r => r.2)) B G a2 G2 hB0 hb r2) (cG_fr f2 (eG ▸ g1)) g2
theorem la_49 {L : Nat} {xs : Nat → Int32} {i : Nat} {B : Int} (hL : L ≤ 3072) (hi : i + 6 ≤ L) (hB0 : 0 ≤ B) (hB : B ≤ 900000000) (k : lK L xs 1318 i (B + 20000)) : lK L xs 1305 i B := by
  intro h G hb hG hM
  refine l_x (ft_d o_La_c49 0 rfl) rfl ?_
  refine l_callI (K' := k_FT_tapeLength) (b0 := 0) (As := []) (ft_d o_La_c49 1 rfl) rfl ml_La_218 li_FT_tapeLength lw_FT_tapeLength ⟨rfl, rfl, (Nat.le_of_ble_eq_true rfl), (Nat.le_of_ble_eq_true rfl)⟩ (Or.inl rfl) sh_0a (ck_10).1 rfl rfl rfl (Nat.le_of_ble_eq_true rfl) (cS_tapeLength h G B hB hb hG) ?_
  intro z h1 w
  obtain ⟨f1, a1, G1, e1, r1, g1⟩ := w
  refine l_m (ft_d o_La_c49 2 rfl) rfl ?_
  refine l_callI (K' := k_Mo_tapeLength) (b0 := 309) (As := []) (ft_d o_La_c49 3 rfl) rfl ml_La_221 li_Mo_tapeLength lw_Mo_tapeLength ⟨rfl, rfl, (Nat.le_of_ble_eq_true rfl), (Nat.le_of_ble_eq_true rfl)⟩ (Or.inl rfl) sh_309a (ck_11).1 rfl rfl rfl (Nat.le_of_ble_eq_true rfl) (mS_tapeLength h1 G B hB hb (mG_fr f1 hM)) ?_
  intro z2 h2 w2
  obtain ⟨f2, a2, G2, e2, r2, g2⟩ := w2
  obtain ⟨ea, eG⟩ := fn_Tl G a1 G1 a2 G2 r1 r2
  have hz : z = z2 := inl_inj ((som_inj e1).symm.trans (ea.trans (som_inj e2)))
  refine l_eqI (ft_d o_La_c49 4 rfl) rfl hz ?_
  exact k h2 G2 ((bd_same (fun _ _ _ r => r.2)) B G a2 G2 hB0 hb r2) (cG_fr f2 (eG ▸ g1)) g2
