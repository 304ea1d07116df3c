/-! TOKENS: the class's spells and stepOverWord -/
def txt (i : Nat) : List Int := (List.range (cl i)).map (ch i)
def wdH (h : ftH) (a b : Nat) : List Int := (List.range (b - a)).map fun j => h 114 (a + j)
def wkI (w : List Int) : Int := if w = txt 0 then 3 else if w = txt 1 then 4 else if w = txt 2 then 5 else if w = txt 3 then 6 else if w = txt 4 then 7 else 1
theorem addNN {a b : Nat} (h : a + b < 2147483648) : ft_add (a : Int) (b : Int) = ((a + b : Nat) : Int) := by
  rw [ft_add_eq ⟨by omega, by omega⟩]
  omega
theorem wdH_eq {h : ftH} {a b i : Nat} (hl : b - a = cl i) (he : ∀ j, j < cl i → h 114 (a + j) = ch i j) : wdH h a b = txt i := by
  unfold wdH txt
  rw [hl]
  exact List.map_congr_left (fun j hj => he j (List.mem_range.mp hj))
theorem wdH_ne {h : ftH} {a b i j : Nat} (hj : j < cl i) (he : h 114 (a + j) ≠ ch i j) : ¬ wdH h a b = txt i := fun q => by
  have hl := congrArg List.length q
  unfold wdH txt at hl
  rw [List.length_map, List.length_map, List.length_range, List.length_range] at hl
  have h1 : (wdH h a b)[j]? = some (h 114 (a + j)) := by simp [wdH, List.getElem?_range (show j < b - a by omega)]
  have h2 : (txt i)[j]? = some (ch i j) := by simp [txt, List.getElem?_range hj]
  rw [q, h2] at h1
  exact he (Option.some.inj h1).symm
theorem wdH_len {h : ftH} {a b i : Nat} (hl : ¬ b - a = cl i) : ¬ wdH h a b = txt i := fun q => by
  have := congrArg List.length q
  unfold wdH txt at this
  rw [List.length_map, List.length_map, List.length_range, List.length_range] at this
  exact hl this
theorem run_len {h : ftH} {i pc : Nat} {st : List ftV} (hi : i < 5) (hd : decode k_Ta_spells.2.1 pc = .ok (.invokevirtual 122, 3)) (hcs : ft_cs st ≤ 8) : ft_Rn k_Ta_spells kJ_len pc (.inr (.inr (333 + i)) :: st) st [.inr (.inr (333 + i))] h (fun r h' => r = some (.inl ((cl i : Nat) : Int)) ∧ h' = h) :=
  ft_rnT (K' := kJ_len) (As := []) (idx := 122) hd (ft_gt 440 (by decide +kernel) rfl) (ft_gt 441 (by decide +kernel) rfl) (ft_gt 442 (by decide +kernel) rfl) lwJ_len ⟨rfl, rfl, Nat.le_of_ble_eq_true rfl, Nat.le_of_ble_eq_true rfl⟩ rfl hi rfl rfl hcs (c_J_len hi)
theorem v_Ta_spells20 {h : ftH} {i a : Nat} (hi : i < 5) (ha : h 113 2 = (a : Int)) (hb : a + cl i ≤ 2200) {R : Option ftV → ftH → Prop} (hk1 : (∀ j, j < cl i → h 114 (a + j) = ch i j) → R (some (.inl 1)) h) (hk0 : ∀ j, j < cl i → h 114 (a + j) ≠ ch i j → R (some (.inl 0)) h) : ∀ (m j : Nat), j + m = cl i → (∀ k, k < j → h 114 (a + k) = ch i k) → ft_V k_Ta_spells 20 [some (.inr (.inr 113)), some (.inr (.inr (333 + i))), some (.inl (j : Int))] [] h R := by
  have h8 := cl_ok i hi
  intro m
  induction m with
  | zero =>
    intro j hm hj
    refine fv_iload_n (n := 2) (ft_d o_Ta_spells 12 rfl) rfl rfl (fv_aload_n (n := 1) (a := 333 + i) (ft_d o_Ta_spells 13 rfl) rfl rfl (fv_callif (K' := kJ_len) (st := [.inl (j : Int)]) (Or.inl rfl) rfl (ft_mm (pre := [.inr (.inr (333 + i))]) rfl) (run_len hi (ft_d o_Ta_spells 14 rfl) (Nat.le_of_ble_eq_true rfl)) (fv_icmp_ge (tgt := 55) (ft_d o_Ta_spells 15 rfl) rfl rfl (fun _ => ?_) (fun c => absurd (by omega) c))))
    exact fv_iconst (n := 1) (ft_d o_Ta_spells 31 rfl) rfl rfl (fv_zreturn (ft_d o_Ta_spells 32 rfl) rfl (Or.inr rfl) (hk1 (fun k hk => hj k (by omega))))
  | succ m ih =>
    intro j hm hj
    refine fv_iload_n (n := 2) (ft_d o_Ta_spells 12 rfl) rfl rfl (fv_aload_n (n := 1) (a := 333 + i) (ft_d o_Ta_spells 13 rfl) rfl rfl (fv_callif (K' := kJ_len) (st := [.inl (j : Int)]) (Or.inl rfl) rfl (ft_mm (pre := [.inr (.inr (333 + i))]) rfl) (run_len hi (ft_d o_Ta_spells 14 rfl) (Nat.le_of_ble_eq_true rfl)) (fv_icmp_ge (tgt := 55) (ft_d o_Ta_spells 15 rfl) rfl rfl (fun c => absurd c (by omega)) (fun _ => ?_))))
    refine fv_aload_n (n := 0) (ft_d o_Ta_spells 16 rfl) rfl rfl (fv_getR (b := 114) (ft_d o_Ta_spells 17 rfl) rfl fl_Ta_9 sh_113 rfl ly_113_0 (fv_aload_n (n := 0) (ft_d o_Ta_spells 18 rfl) rfl rfl (fv_getI (ft_d o_Ta_spells 19 rfl) rfl fl_Ta_94 sh_113 rfl (fv_iload_n (n := 2) (ft_d o_Ta_spells 20 rfl) rfl rfl (fv_iadd (ft_d o_Ta_spells 21 rfl) rfl ?_)))))
    rw [ha, addNN (by omega)]
    refine fv_bald (ft_d o_Ta_spells 22 rfl) rfl sh_114 ⟨by omega, by omega⟩ ?_
    rw [Int.toNat_natCast]
    refine fv_aload_n (n := 1) (a := 333 + i) (ft_d o_Ta_spells 23 rfl) rfl rfl (fv_iload_n (n := 2) (ft_d o_Ta_spells 24 rfl) rfl rfl (fv_callc (K' := kJ_cha) (st := [.inl (h 114 (a + j))]) (Or.inl rfl) rfl (ft_mm (pre := [.inl (j : Int), .inr (.inr (333 + i))]) rfl) (ft_rnT (K' := kJ_cha) (As := [.inl (j : Int)]) (idx := 128) (ft_d o_Ta_spells 25 rfl) (ft_gt 450 (by decide +kernel) rfl) (ft_gt 451 (by decide +kernel) rfl) (ft_gt 452 (by decide +kernel) rfl) lwJ_cha ⟨rfl, rfl, Nat.le_of_ble_eq_true rfl, Nat.le_of_ble_eq_true rfl⟩ rfl hi rfl rfl (Nat.le_of_ble_eq_true rfl) (c_J_cha hi (show j < cl i by omega))) (fun z h1 _ hw => ?_)))
    obtain ⟨hz, rfl⟩ := hw
    cases hz
    refine fv_icmp_eq (tgt := 49) (ft_d o_Ta_spells 26 rfl) rfl rfl (fun c => ?_) (fun c => ?_)
    · refine fv_iinc (L' := [some (.inr (.inr 113)), some (.inr (.inr (333 + i))), some (.inl (ft_add (j : Int) 1))]) (ft_d o_Ta_spells 29 rfl) rfl rfl (Nat.le_of_ble_eq_true rfl) rfl (fv_goto (pc' := 20) (ft_d o_Ta_spells 30 rfl) rfl ?_)
      rw [inc1 (by omega)]
      refine ih (j + 1) (by omega) (fun k hk => ?_)
      by_cases q : k = j
      · rw [q]; exact c
      · exact hj k (by omega)
    · exact fv_iconst (n := 0) (ft_d o_Ta_spells 27 rfl) rfl rfl (fv_zreturn (ft_d o_Ta_spells 28 rfl) rfl (Or.inl rfl) (hk0 j (by omega) c))
theorem c_Ta_spells {h : ftH} {i a b : Nat} (hi : i < 5) (ha : h 113 2 = (a : Int)) (hb : h 113 3 = (b : Int)) (hab : a ≤ b ∧ b ≤ 2200) : ft_C k_Ta_spells [.inr (.inr 113), .inr (.inr (333 + i))] h (fun r h' => r = some (.inl (if wdH h a b = txt i then 1 else 0)) ∧ h' = h) := by
  refine ft_enter (n := 1) rfl (Nat.le_of_ble_eq_true rfl) rfl (fv_aload_n (n := 0) (a := 113) (ft_d o_Ta_spells 0 rfl) rfl rfl (fv_getI (ft_d o_Ta_spells 1 rfl) rfl fl_Ta_19 sh_113 rfl (fv_aload_n (n := 0) (a := 113) (ft_d o_Ta_spells 2 rfl) rfl rfl (fv_getI (ft_d o_Ta_spells 3 rfl) rfl fl_Ta_94 sh_113 rfl (fv_isub (ft_d o_Ta_spells 4 rfl) rfl ?_)))))
  rw [ha, hb, ft_sub_eq ⟨by omega, by omega⟩, show (b : Int) - (a : Int) = ((b - a : Nat) : Int) by omega]
  refine fv_aload_n (n := 1) (a := 333 + i) (ft_d o_Ta_spells 5 rfl) rfl rfl (fv_callif (K' := kJ_len) (st := [.inl ((b - a : Nat) : Int)]) (Or.inl rfl) rfl (ft_mm (pre := [.inr (.inr (333 + i))]) rfl) (run_len hi (ft_d o_Ta_spells 6 rfl) (Nat.le_of_ble_eq_true rfl)) (fv_icmp_eq (tgt := 18) (ft_d o_Ta_spells 7 rfl) rfl rfl (fun c => ?_) (fun c => ?_)))
  · have hl : b - a = cl i := by omega
    refine fv_iconst (n := 0) (ft_d o_Ta_spells 10 rfl) rfl rfl (fv_istore_n (n := 2) (L' := [some (.inr (.inr 113)), some (.inr (.inr (333 + i))), some (.inl 0)]) (ft_d o_Ta_spells 11 rfl) rfl (Nat.le_of_ble_eq_true rfl) rfl ?_)
    exact v_Ta_spells20 hi ha (by omega) (fun q => ⟨by rw [if_pos (wdH_eq hl q)], rfl⟩) (fun j hj q => ⟨by rw [if_neg (wdH_ne hj q)], rfl⟩) (cl i) 0 (by omega) (fun k hk => absurd hk (Nat.not_lt_zero k))
  · exact fv_iconst (n := 0) (ft_d o_Ta_spells 8 rfl) rfl rfl (fv_zreturn (ft_d o_Ta_spells 9 rfl) rfl (Or.inl rfl) ⟨by rw [if_neg (wdH_len (by omega))], rfl⟩)
theorem run_sp {h : ftH} {i a b pc : Nat} {st : List ftV} (hi : i < 5) (ha : h 113 2 = (a : Int)) (hb : h 113 3 = (b : Int)) (hab : a ≤ b ∧ b ≤ 2200) (hd : decode k_Ta_stepOverWord.2.1 pc = .ok (.invokevirtual 110, 3)) (hcs : ft_cs st ≤ 8) : ft_Rn k_Ta_stepOverWord k_Ta_spells pc (.inr (.inr (333 + i)) :: .inr (.inr 113) :: st) st [.inr (.inr 113), .inr (.inr (333 + i))] h (fun r h' => r = some (.inl (if wdH h a b = txt i then 1 else 0)) ∧ h' = h) :=
  ft_rnV (K' := k_Ta_spells) (As := [.inr (.inr (333 + i))]) hd ml_Ta_110 li_Ta_spells.1 li_Ta_spells.2 lw_Ta_spells ⟨rfl, rfl, Nat.le_of_ble_eq_true rfl, Nat.le_of_ble_eq_true rfl⟩ sh_113 rfl rfl rfl rfl hcs (c_Ta_spells hi ha hb hab)
theorem v_Ta_sow39 {h : ftH} {a b : Nat} (ha : h 113 2 = (a : Int)) (hb : h 113 3 = (b : Int)) (hab : a ≤ b ∧ b ≤ 2200) {R : Option ftV → ftH → Prop} (hk : R none (ft_hs h 113 4 (wkI (wdH h a b)))) : ft_V k_Ta_stepOverWord 39 [some (.inr (.inr 113))] [] h R := by
  have s0 : ∀ q : Nat, ft_cs ([] : List ftV) ≤ 8 := fun _ => Nat.le_of_ble_eq_true rfl
  have ret : ∀ z : Int, wkI (wdH h a b) = z → ft_V k_Ta_stepOverWord 127 [some (.inr (.inr 113))] [] (ft_hs h 113 4 z) R := fun z hz => fv_return (ft_d o_Ta_stepOverWord 60 rfl) rfl (by rw [← hz]; exact hk)
  refine fv_aload_n (n := 0) (a := 113) (ft_d o_Ta_stepOverWord 19 rfl) rfl rfl (fv_ldcS (i := 0) (ft_d o_Ta_stepOverWord 20 rfl) rfl rfl (by omega) rfl (fv_callif (K' := k_Ta_spells) (st := []) (Or.inr rfl) rfl (ft_mm (pre := [.inr (.inr (333 + 0)), .inr (.inr 113)]) rfl) (run_sp (by omega) ha hb hab (ft_d o_Ta_stepOverWord 21 rfl) (s0 0)) (fv_if_eq (tgt := 56) (ft_d o_Ta_stepOverWord 22 rfl) rfl rfl (fun c => ?_) (fun c => ?_))))
  rotate_left
  · exact fv_aload_n (n := 0) (a := 113) (ft_d o_Ta_stepOverWord 23 rfl) rfl rfl (fv_iconst (n := 3) (ft_d o_Ta_stepOverWord 24 rfl) rfl rfl (fv_putI (ft_d o_Ta_stepOverWord 25 rfl) rfl fl_Ta_41 rfl rfl sh_113 rfl (fv_goto (pc' := 127) (ft_d o_Ta_stepOverWord 26 rfl) rfl (ret 3 (by unfold wkI; rw [if_pos (ft_if1.mp c)])))))
  have c0 := ft_if0.mp c
  refine fv_aload_n (n := 0) (a := 113) (ft_d o_Ta_stepOverWord 27 rfl) rfl rfl (fv_ldcS (i := 1) (ft_d o_Ta_stepOverWord 28 rfl) rfl rfl (by omega) rfl (fv_callif (K' := k_Ta_spells) (st := []) (Or.inr rfl) rfl (ft_mm (pre := [.inr (.inr (333 + 1)), .inr (.inr 113)]) rfl) (run_sp (by omega) ha hb hab (ft_d o_Ta_stepOverWord 29 rfl) (s0 0)) (fv_if_eq (tgt := 73) (ft_d o_Ta_stepOverWord 30 rfl) rfl rfl (fun c => ?_) (fun c => ?_))))
  rotate_left
  · exact fv_aload_n (n := 0) (a := 113) (ft_d o_Ta_stepOverWord 31 rfl) rfl rfl (fv_iconst (n := 4) (ft_d o_Ta_stepOverWord 32 rfl) rfl rfl (fv_putI (ft_d o_Ta_stepOverWord 33 rfl) rfl fl_Ta_41 rfl rfl sh_113 rfl (fv_goto (pc' := 127) (ft_d o_Ta_stepOverWord 34 rfl) rfl (ret 4 (by unfold wkI; rw [if_neg c0, if_pos (ft_if1.mp c)])))))
  have c1 := ft_if0.mp c
  refine fv_aload_n (n := 0) (a := 113) (ft_d o_Ta_stepOverWord 35 rfl) rfl rfl (fv_ldcS (i := 2) (ft_d o_Ta_stepOverWord 36 rfl) rfl rfl (by omega) rfl (fv_callif (K' := k_Ta_spells) (st := []) (Or.inr rfl) rfl (ft_mm (pre := [.inr (.inr (333 + 2)), .inr (.inr 113)]) rfl) (run_sp (by omega) ha hb hab (ft_d o_Ta_stepOverWord 37 rfl) (s0 0)) (fv_if_eq (tgt := 90) (ft_d o_Ta_stepOverWord 38 rfl) rfl rfl (fun c => ?_) (fun c => ?_))))
  rotate_left
  · exact fv_aload_n (n := 0) (a := 113) (ft_d o_Ta_stepOverWord 39 rfl) rfl rfl (fv_iconst (n := 5) (ft_d o_Ta_stepOverWord 40 rfl) rfl rfl (fv_putI (ft_d o_Ta_stepOverWord 41 rfl) rfl fl_Ta_41 rfl rfl sh_113 rfl (fv_goto (pc' := 127) (ft_d o_Ta_stepOverWord 42 rfl) rfl (ret 5 (by unfold wkI; rw [if_neg c0, if_neg c1, if_pos (ft_if1.mp c)])))))
  have c2 := ft_if0.mp c
  refine fv_aload_n (n := 0) (a := 113) (ft_d o_Ta_stepOverWord 43 rfl) rfl rfl (fv_ldcS (i := 3) (ft_d o_Ta_stepOverWord 44 rfl) rfl rfl (by omega) rfl (fv_callif (K' := k_Ta_spells) (st := []) (Or.inr rfl) rfl (ft_mm (pre := [.inr (.inr (333 + 3)), .inr (.inr 113)]) rfl) (run_sp (by omega) ha hb hab (ft_d o_Ta_stepOverWord 45 rfl) (s0 0)) (fv_if_eq (tgt := 108) (ft_d o_Ta_stepOverWord 46 rfl) rfl rfl (fun c => ?_) (fun c => ?_))))
  rotate_left
  · exact fv_aload_n (n := 0) (a := 113) (ft_d o_Ta_stepOverWord 47 rfl) rfl rfl (fv_bipush (n := 6) (ft_d o_Ta_stepOverWord 48 rfl) rfl rfl (fv_putI (ft_d o_Ta_stepOverWord 49 rfl) rfl fl_Ta_41 rfl rfl sh_113 rfl (fv_goto (pc' := 127) (ft_d o_Ta_stepOverWord 50 rfl) rfl (ret 6 (by unfold wkI; rw [if_neg c0, if_neg c1, if_neg c2, if_pos (ft_if1.mp c)])))))
  have c3 := ft_if0.mp c
  refine fv_aload_n (n := 0) (a := 113) (ft_d o_Ta_stepOverWord 51 rfl) rfl rfl (fv_aload_n (n := 0) (a := 113) (ft_d o_Ta_stepOverWord 52 rfl) rfl rfl (fv_ldcS (i := 4) (ft_d o_Ta_stepOverWord 53 rfl) rfl rfl (by omega) rfl (fv_callif (K' := k_Ta_spells) (st := [.inr (.inr 113)]) (Or.inr rfl) rfl (ft_mm (pre := [.inr (.inr (333 + 4)), .inr (.inr 113)]) rfl) (run_sp (by omega) ha hb hab (ft_d o_Ta_stepOverWord 54 rfl) (Nat.le_of_ble_eq_true rfl)) (fv_if_eq (tgt := 123) (ft_d o_Ta_stepOverWord 55 rfl) rfl rfl (fun c => ?_) (fun c => ?_)))))
  · exact fv_iconst (n := 1) (ft_d o_Ta_stepOverWord 58 rfl) rfl rfl (fv_putI (ft_d o_Ta_stepOverWord 59 rfl) rfl fl_Ta_41 rfl rfl sh_113 rfl (ret 1 (by unfold wkI; rw [if_neg c0, if_neg c1, if_neg c2, if_neg c3, if_neg (ft_if0.mp c)])))
  · exact fv_bipush (n := 7) (ft_d o_Ta_stepOverWord 56 rfl) rfl rfl (fv_goto (pc' := 124) (ft_d o_Ta_stepOverWord 57 rfl) rfl (fv_putI (ft_d o_Ta_stepOverWord 59 rfl) rfl fl_Ta_41 rfl rfl sh_113 rfl (ret 7 (by unfold wkI; rw [if_neg c0, if_neg c1, if_neg c2, if_neg c3, if_pos (ft_if1.mp c)]))))
