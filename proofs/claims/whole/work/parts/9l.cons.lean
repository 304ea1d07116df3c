/-! printed by wip/whole/gen/gen9k.py: constructors: contracts -/
abbrev gs_PS (a N : Nat) : Prop := ft_sh a = some (.inl 4) ∧ ft_sh (a + 1) = some (.inr (1, N)) ∧ ft_sh (a + 2) = some (.inr (0, N)) ∧ ft_lay a 0 = a + 1 ∧ ft_lay a 1 = a + 2
abbrev gs_TL (a : Nat) : Prop := ft_sh a = some (.inl 9) ∧ ft_sh (a + 1) = some (.inr (1, 40)) ∧ ft_sh (a + 2) = some (.inr (0, 40)) ∧ ft_lay a 0 = a + 1 ∧ ft_lay a 1 = a + 2
abbrev gs_St (a : Nat) : Prop := ft_sh a = some (.inl 6) ∧ gs_PS (a + 1) 60 ∧ gs_PS (a + 4) 80 ∧ gs_TL (a + 7) ∧ ft_sh (a + 10) = some (.inr (1, 5)) ∧ ft_lay a 1 = a + 1 ∧ ft_lay a 2 = a + 4 ∧ ft_lay a 3 = a + 7 ∧ ft_lay a 4 = a + 10
abbrev gs_Cv (a N : Nat) : Prop := ft_sh a = some (.inl 2) ∧ ft_sh (a + 1) = some (.inr (0, 33)) ∧ ft_sh (a + 2) = some (.inr (0, N)) ∧ ft_sh (a + 3) = some (.inr (0, N)) ∧ ft_sh (a + 4) = some (.inr (1, N)) ∧ ft_sh (a + 5) = some (.inr (1, 2 * N + 1)) ∧ ft_sh (a + 6) = some (.inr (0, 2 * N + 1)) ∧ ft_lay a 7 = a + 1 ∧ ft_lay a 0 = a + 2 ∧ ft_lay a 1 = a + 3 ∧ ft_lay a 2 = a + 4 ∧ ft_lay a 3 = a + 5 ∧ ft_lay a 4 = a + 6
theorem gsSt_1 : gs_St 1 := ⟨by decide +kernel, by decide +kernel, by decide +kernel, by decide +kernel, by decide +kernel, by decide +kernel, by decide +kernel, by decide +kernel, by decide +kernel⟩
theorem gsSt_12 : gs_St 12 := ⟨by decide +kernel, by decide +kernel, by decide +kernel, by decide +kernel, by decide +kernel, by decide +kernel, by decide +kernel, by decide +kernel, by decide +kernel⟩
theorem gsSt_25 : gs_St 25 := ⟨by decide +kernel, by decide +kernel, by decide +kernel, by decide +kernel, by decide +kernel, by decide +kernel, by decide +kernel, by decide +kernel, by decide +kernel⟩
theorem gsSt_36 : gs_St 36 := ⟨by decide +kernel, by decide +kernel, by decide +kernel, by decide +kernel, by decide +kernel, by decide +kernel, by decide +kernel, by decide +kernel, by decide +kernel⟩
theorem gsSt_47 : gs_St 47 := ⟨by decide +kernel, by decide +kernel, by decide +kernel, by decide +kernel, by decide +kernel, by decide +kernel, by decide +kernel, by decide +kernel, by decide +kernel⟩
theorem gsSt_58 : gs_St 58 := ⟨by decide +kernel, by decide +kernel, by decide +kernel, by decide +kernel, by decide +kernel, by decide +kernel, by decide +kernel, by decide +kernel, by decide +kernel⟩
theorem gsSt_69 : gs_St 69 := ⟨by decide +kernel, by decide +kernel, by decide +kernel, by decide +kernel, by decide +kernel, by decide +kernel, by decide +kernel, by decide +kernel, by decide +kernel⟩
theorem gsSt_80 : gs_St 80 := ⟨by decide +kernel, by decide +kernel, by decide +kernel, by decide +kernel, by decide +kernel, by decide +kernel, by decide +kernel, by decide +kernel, by decide +kernel⟩
theorem gsSt_91 : gs_St 91 := ⟨by decide +kernel, by decide +kernel, by decide +kernel, by decide +kernel, by decide +kernel, by decide +kernel, by decide +kernel, by decide +kernel, by decide +kernel⟩
theorem gsSt_102 : gs_St 102 := ⟨by decide +kernel, by decide +kernel, by decide +kernel, by decide +kernel, by decide +kernel, by decide +kernel, by decide +kernel, by decide +kernel, by decide +kernel⟩
def z_PS_init (a : Nat) (z : gZ) : gZ := (a, 1) :: (a, 0) :: z
set_option maxRecDepth 20000 in
theorem gc_PS_init {h : ftH} {z : gZ} {a : Nat} {N : Nat} (hs : gs_PS a N) (hb : N ≤ 200) : gC (kI_PS_init N) [.inr (.inr a), .inl (N : Int)] (a + 1) h z (fun n1 h1 z1 => n1 = a + 3 ∧ h1 = h ∧ z1 = z_PS_init a z) := by
  obtain ⟨s0, s1, s2, l0, l1⟩ := hs
  refine g_enter (j := 0) (L := [some (.inr (.inr a)), some (.inl (N : Int))]) rfl rfl rfl (Nat.le_of_ble_eq_true rfl) rfl ?_
  refine gv_aload_n (ft_d o_PS_init 0 rfl) rfl rfl ?_
  refine gv_objInit (ft_d o_PS_init 1 rfl) rfl lo_PS_init oi_i oi_c (Nat.le_of_ble_eq_true rfl) (Or.inr ⟨rfl, (Nat.le_of_ble_eq_true rfl)⟩) (Nat.le_of_ble_eq_true rfl) ?_
  refine gv_aload_n (ft_d o_PS_init 2 rfl) rfl rfl ?_
  refine gv_iload_n (ft_d o_PS_init 3 rfl) rfl rfl ?_
  refine gv_newJ (ft_d o_PS_init 4 rfl) rfl s1 rfl (by omega) (Nat.le_of_ble_eq_true rfl) (by show _ ≤ 0 + N + N; omega) ?_
  refine gv_putR (ft_d o_PS_init 5 rfl) rfl fl_PS_9 rfl rfl (fun x => ⟨rfl, rfl⟩) s0 rfl l0 ?_
  refine gv_aload_n (ft_d o_PS_init 6 rfl) rfl rfl ?_
  refine gv_iload_n (ft_d o_PS_init 7 rfl) rfl rfl ?_
  refine gv_newI (ft_d o_PS_init 8 rfl) rfl s2 rfl (by omega) (Nat.le_of_ble_eq_true rfl) (by show _ ≤ 0 + N + N; omega) ?_
  refine gv_putR (ft_d o_PS_init 9 rfl) rfl fl_PS_15 rfl rfl (fun x => ⟨rfl, rfl⟩) s0 rfl l1 ?_
  exact gv_return (ft_d o_PS_init 10 rfl) rfl rfl ⟨rfl, rfl, rfl⟩
def z_TL_init (a : Nat) (z : gZ) : gZ := (a, 1) :: (a, 0) :: z
set_option maxRecDepth 20000 in
theorem gc_TL_init {h : ftH} {z : gZ} {a : Nat} (hs : gs_TL a) : gC kI_TL_init [.inr (.inr a)] (a + 1) h z (fun n1 h1 z1 => n1 = a + 3 ∧ h1 = h ∧ z1 = z_TL_init a z) := by
  obtain ⟨s0, s1, s2, l0, l1⟩ := hs
  refine g_enter (j := 0) (L := [some (.inr (.inr a))]) rfl rfl rfl (Nat.le_of_ble_eq_true rfl) rfl ?_
  refine gv_aload_n (ft_d o_TL_init 0 rfl) rfl rfl ?_
  refine gv_objInit (ft_d o_TL_init 1 rfl) rfl lo_TL_init oi_i oi_c (Nat.le_of_ble_eq_true rfl) (Or.inr ⟨rfl, (Nat.le_of_ble_eq_true rfl)⟩) (Nat.le_of_ble_eq_true rfl) ?_
  refine gv_aload_n (ft_d o_TL_init 2 rfl) rfl rfl ?_
  refine gv_bipush (ft_d o_TL_init 3 rfl) rfl rfl ?_
  refine gv_newJ (ft_d o_TL_init 4 rfl) rfl s1 rfl (Nat.le_of_ble_eq_true rfl) (Nat.le_of_ble_eq_true rfl) (Nat.le_of_ble_eq_true rfl) ?_
  refine gv_putR (ft_d o_TL_init 5 rfl) rfl fl_TL_9 rfl rfl (fun x => ⟨rfl, rfl⟩) s0 rfl l0 ?_
  refine gv_aload_n (ft_d o_TL_init 6 rfl) rfl rfl ?_
  refine gv_bipush (ft_d o_TL_init 7 rfl) rfl rfl ?_
  refine gv_newI (ft_d o_TL_init 8 rfl) rfl s2 rfl (Nat.le_of_ble_eq_true rfl) (Nat.le_of_ble_eq_true rfl) (Nat.le_of_ble_eq_true rfl) ?_
  refine gv_putR (ft_d o_TL_init 9 rfl) rfl fl_TL_15 rfl rfl (fun x => ⟨rfl, rfl⟩) s0 rfl l1 ?_
  exact gv_return (ft_d o_TL_init 10 rfl) rfl rfl ⟨rfl, rfl, rfl⟩
def z_St_init (a : Nat) (z : gZ) : gZ := (a, 4) :: (a, 3) :: z_TL_init (a + 7) ((a, 2) :: z_PS_init (a + 4) ((a, 1) :: z_PS_init (a + 1) (z)))
set_option maxRecDepth 20000 in
theorem gc_St_init {h : ftH} {z : gZ} {a : Nat} (hs : gs_St a) : gC kI_St_init [.inr (.inr a)] (a + 1) h z (fun n1 h1 z1 => n1 = a + 11 ∧ h1 = ft_hs h a 0 8 ∧ z1 = z_St_init a z) := by
  obtain ⟨s0, s1, s4, s7, s10, l1, l2, l3, l4⟩ := hs
  refine g_enter (j := 0) (L := [some (.inr (.inr a))]) rfl rfl rfl (Nat.le_of_ble_eq_true rfl) rfl ?_
  refine gv_aload_n (ft_d o_St_init 0 rfl) rfl rfl ?_
  refine gv_objInit (ft_d o_St_init 1 rfl) rfl lo_St_init oi_i oi_c (Nat.le_of_ble_eq_true rfl) (Or.inr ⟨rfl, (Nat.le_of_ble_eq_true rfl)⟩) (Nat.le_of_ble_eq_true rfl) ?_
  refine gv_aload_n (ft_d o_St_init 2 rfl) rfl rfl ?_
  refine gv_bipush (ft_d o_St_init 3 rfl) rfl rfl ?_
  refine gv_putI (ft_d o_St_init 4 rfl) rfl fl_St_9 rfl rfl s0 rfl ?_
  refine gv_aload_n (ft_d o_St_init 5 rfl) rfl rfl ?_
  refine gv_new (ft_d o_St_init 6 rfl) rfl s1.1 ck_4 cl_St_15 in_4 iz_4 rfl nd_4 (Nat.le_of_ble_eq_true rfl) (Nat.le_of_ble_eq_true rfl) ?_
  refine gv_dup (ft_d o_St_init 7 rfl) rfl rfl ?_
  refine gv_bipush (ft_d o_St_init 8 rfl) rfl rfl ?_
  refine gv_call (K' := kI_PS_init 60) (b := (a + 1)) (As := [.inl (60)]) (ft_d o_St_init 9 rfl) rfl mi_St_17 li_PS_init (lw_PS_init 60) rfl rfl ⟨(Nat.le_of_ble_eq_true rfl), (Nat.le_of_ble_eq_true rfl)⟩ rfl rfl (Nat.le_of_ble_eq_true rfl) (Nat.le_of_ble_eq_true rfl) (Nat.le_of_ble_eq_true rfl) (gc_PS_init (a := (a + 1)) (N := 60) s1 (Nat.le_of_ble_eq_true rfl)) ?_
  intro n1 h1 z1 w
  obtain ⟨w1, w2, w3⟩ := w
  rw [w1, w2, w3]
  refine ⟨by omega, ?_⟩
  refine gv_putR (ft_d o_St_init 10 rfl) rfl fl_St_20 rfl rfl (fun x => ⟨rfl, rfl⟩) s0 rfl l1 ?_
  refine gv_aload_n (ft_d o_St_init 11 rfl) rfl rfl ?_
  refine gv_new (ft_d o_St_init 12 rfl) rfl s4.1 ck_4 cl_St_15 in_4 iz_4 rfl nd_4 (Nat.le_of_ble_eq_true rfl) (Nat.le_of_ble_eq_true rfl) ?_
  refine gv_dup (ft_d o_St_init 13 rfl) rfl rfl ?_
  refine gv_bipush (ft_d o_St_init 14 rfl) rfl rfl ?_
  refine gv_call (K' := kI_PS_init 80) (b := (a + 4)) (As := [.inl (80)]) (ft_d o_St_init 15 rfl) rfl mi_St_17 li_PS_init (lw_PS_init 80) rfl rfl ⟨(Nat.le_of_ble_eq_true rfl), (Nat.le_of_ble_eq_true rfl)⟩ rfl rfl (Nat.le_of_ble_eq_true rfl) (Nat.le_of_ble_eq_true rfl) (Nat.le_of_ble_eq_true rfl) (gc_PS_init (a := (a + 4)) (N := 80) s4 (Nat.le_of_ble_eq_true rfl)) ?_
  intro n1 h1 z1 w
  obtain ⟨w1, w2, w3⟩ := w
  rw [w1, w2, w3]
  refine ⟨by omega, ?_⟩
  refine gv_putR (ft_d o_St_init 16 rfl) rfl fl_St_24 rfl rfl (fun x => ⟨rfl, rfl⟩) s0 rfl l2 ?_
  refine gv_aload_n (ft_d o_St_init 17 rfl) rfl rfl ?_
  refine gv_new (ft_d o_St_init 18 rfl) rfl s7.1 ck_9 cl_St_27 in_9 iz_9 rfl nd_9 (Nat.le_of_ble_eq_true rfl) (Nat.le_of_ble_eq_true rfl) ?_
  refine gv_dup (ft_d o_St_init 19 rfl) rfl rfl ?_
  refine gv_callN (K' := kI_TL_init) (b := (a + 7)) (As := []) (ft_d o_St_init 20 rfl) rfl mi_St_29 li_TL_init lw_TL_init rfl rfl ⟨(Nat.le_of_ble_eq_true rfl), (Nat.le_of_ble_eq_true rfl)⟩ rfl rfl (Nat.le_of_ble_eq_true rfl) (Nat.le_of_ble_eq_true rfl) (Nat.le_of_ble_eq_true rfl) (gc_TL_init (a := (a + 7)) s7) ?_
  intro n1 h1 z1 w
  obtain ⟨w1, w2, w3⟩ := w
  rw [w1, w2, w3]
  refine ⟨by omega, ?_⟩
  refine gv_putR (ft_d o_St_init 21 rfl) rfl fl_St_30 rfl rfl (fun x => ⟨rfl, rfl⟩) s0 rfl l3 ?_
  refine gv_aload_n (ft_d o_St_init 22 rfl) rfl rfl ?_
  refine gv_iconst (ft_d o_St_init 23 rfl) rfl rfl ?_
  refine gv_newJ (ft_d o_St_init 24 rfl) rfl s10 rfl (Nat.le_of_ble_eq_true rfl) (Nat.le_of_ble_eq_true rfl) (Nat.le_of_ble_eq_true rfl) ?_
  refine gv_putR (ft_d o_St_init 25 rfl) rfl fl_St_34 rfl rfl (fun x => ⟨rfl, rfl⟩) s0 rfl l4 ?_
  exact gv_return (ft_d o_St_init 26 rfl) rfl rfl ⟨rfl, rfl, rfl⟩
def z_Hi_init (z : gZ) : gZ := (24, 7) :: z_St_init 102 ((24, 6) :: z_St_init 91 ((24, 5) :: z_St_init 80 ((24, 4) :: z_St_init 69 ((24, 3) :: z_St_init 58 ((24, 2) :: z_St_init 47 ((24, 1) :: z_St_init 36 ((24, 0) :: z_St_init 25 ((23, 0) :: z))))))))
def h_Hi_init (h : ftH) : ftH := ft_hs (ft_hs (ft_hs (ft_hs (ft_hs (ft_hs (ft_hs (ft_hs (h) 25 0 8) 36 0 8) 47 0 8) 58 0 8) 69 0 8) 80 0 8) 91 0 8) 102 0 8
set_option maxRecDepth 20000 in
theorem gc_Hi_init {h : ftH} {z : gZ} : gC kI_Hi_init [.inr (.inr 23)] (23 + 1) h z (fun n1 h1 z1 => n1 = 113 ∧ h1 = h_Hi_init h ∧ z1 = z_Hi_init z) := by
  refine g_enter (j := 1) (L := [some (.inr (.inr 23)), none]) rfl rfl rfl (Nat.le_of_ble_eq_true rfl) rfl ?_
  refine gv_aload_n (ft_d o_Hi_init 0 rfl) rfl rfl ?_
  refine gv_objInit (ft_d o_Hi_init 1 rfl) rfl lo_Hi_init oi_i oi_c (Nat.le_of_ble_eq_true rfl) (Or.inr ⟨rfl, (Nat.le_of_ble_eq_true rfl)⟩) (Nat.le_of_ble_eq_true rfl) ?_
  refine gv_aload_n (ft_d o_Hi_init 2 rfl) rfl rfl ?_
  refine gv_bipush (ft_d o_Hi_init 3 rfl) rfl rfl ?_
  refine gv_newQ (ft_d o_Hi_init 4 rfl) rfl (by decide +kernel) cl_Hi_9 rfl (Nat.le_of_ble_eq_true rfl) (Nat.le_of_ble_eq_true rfl) (Nat.le_of_ble_eq_true rfl) ?_
  refine gv_putR (ft_d o_Hi_init 5 rfl) rfl fl_Hi_11 rfl rfl (fun x => ⟨rfl, rfl⟩) (by decide +kernel) rfl (by decide +kernel) ?_
  refine gv_iconst (ft_d o_Hi_init 6 rfl) rfl rfl ?_
  refine gv_istore_n (L' := [some (.inr (.inr 23)), some (.inl (0))]) (ft_d o_Hi_init 7 rfl) rfl (Nat.le_of_ble_eq_true rfl) rfl ?_
  refine gv_iload_n (ft_d o_Hi_init 8 rfl) rfl rfl ?_
  refine gv_bipush (ft_d o_Hi_init 9 rfl) rfl rfl ?_
  refine gv_icmp_ge (ft_d o_Hi_init 10 rfl) rfl rfl (fun q => absurd q (by decide)) (fun _ => ?_)
  refine gv_aload_n (ft_d o_Hi_init 11 rfl) rfl rfl ?_
  refine gv_getR (b := 24) (ft_d o_Hi_init 12 rfl) rfl fl_Hi_11 (by decide +kernel) rfl (by decide +kernel) (by simp [z_St_init, z_PS_init, z_TL_init]) ?_
  refine gv_iload_n (ft_d o_Hi_init 13 rfl) rfl rfl ?_
  refine gv_new (ft_d o_Hi_init 14 rfl) rfl (by decide +kernel) ck_6 cl_Hi_9 in_6 iz_6 rfl nd_6 (Nat.le_of_ble_eq_true rfl) (Nat.le_of_ble_eq_true rfl) ?_
  refine gv_dup (ft_d o_Hi_init 15 rfl) rfl rfl ?_
  refine gv_callN (K' := kI_St_init) (b := 25) (As := []) (ft_d o_Hi_init 16 rfl) rfl mi_Hi_17 li_St_init lw_St_init rfl rfl ⟨(Nat.le_of_ble_eq_true rfl), (Nat.le_of_ble_eq_true rfl)⟩ rfl rfl (Nat.le_of_ble_eq_true rfl) (Nat.le_of_ble_eq_true rfl) (Nat.le_of_ble_eq_true rfl) (gc_St_init (a := 25) gsSt_25) ?_
  intro n1 h1 z1 w
  obtain ⟨w1, w2, w3⟩ := w
  rw [w1, w2, w3]
  refine ⟨Nat.le_of_ble_eq_true rfl, ?_⟩
  refine gv_aast (N := 8) (i := 0) (ft_d o_Hi_init 17 rfl) rfl (by decide +kernel) (by decide) (by decide +kernel) (by decide +kernel) (ck_6).1 rfl ?_
  refine gv_iinc (w := 1) (L' := [some (.inr (.inr 23)), some (.inl (1))]) (ft_d o_Hi_init 18 rfl) rfl rfl (by decide +kernel) (Nat.le_of_ble_eq_true rfl) rfl ?_
  refine gv_goto (ft_d o_Hi_init 19 rfl) rfl ?_
  refine gv_iload_n (ft_d o_Hi_init 8 rfl) rfl rfl ?_
  refine gv_bipush (ft_d o_Hi_init 9 rfl) rfl rfl ?_
  refine gv_icmp_ge (ft_d o_Hi_init 10 rfl) rfl rfl (fun q => absurd q (by decide)) (fun _ => ?_)
  refine gv_aload_n (ft_d o_Hi_init 11 rfl) rfl rfl ?_
  refine gv_getR (b := 24) (ft_d o_Hi_init 12 rfl) rfl fl_Hi_11 (by decide +kernel) rfl (by decide +kernel) (by simp [z_St_init, z_PS_init, z_TL_init]) ?_
  refine gv_iload_n (ft_d o_Hi_init 13 rfl) rfl rfl ?_
  refine gv_new (ft_d o_Hi_init 14 rfl) rfl (by decide +kernel) ck_6 cl_Hi_9 in_6 iz_6 rfl nd_6 (Nat.le_of_ble_eq_true rfl) (Nat.le_of_ble_eq_true rfl) ?_
  refine gv_dup (ft_d o_Hi_init 15 rfl) rfl rfl ?_
  refine gv_callN (K' := kI_St_init) (b := 36) (As := []) (ft_d o_Hi_init 16 rfl) rfl mi_Hi_17 li_St_init lw_St_init rfl rfl ⟨(Nat.le_of_ble_eq_true rfl), (Nat.le_of_ble_eq_true rfl)⟩ rfl rfl (Nat.le_of_ble_eq_true rfl) (Nat.le_of_ble_eq_true rfl) (Nat.le_of_ble_eq_true rfl) (gc_St_init (a := 36) gsSt_36) ?_
  intro n1 h1 z1 w
  obtain ⟨w1, w2, w3⟩ := w
  rw [w1, w2, w3]
  refine ⟨Nat.le_of_ble_eq_true rfl, ?_⟩
  refine gv_aast (N := 8) (i := 1) (ft_d o_Hi_init 17 rfl) rfl (by decide +kernel) (by decide) (by decide +kernel) (by decide +kernel) (ck_6).1 rfl ?_
  refine gv_iinc (w := 2) (L' := [some (.inr (.inr 23)), some (.inl (2))]) (ft_d o_Hi_init 18 rfl) rfl rfl (by decide +kernel) (Nat.le_of_ble_eq_true rfl) rfl ?_
  refine gv_goto (ft_d o_Hi_init 19 rfl) rfl ?_
  refine gv_iload_n (ft_d o_Hi_init 8 rfl) rfl rfl ?_
  refine gv_bipush (ft_d o_Hi_init 9 rfl) rfl rfl ?_
  refine gv_icmp_ge (ft_d o_Hi_init 10 rfl) rfl rfl (fun q => absurd q (by decide)) (fun _ => ?_)
  refine gv_aload_n (ft_d o_Hi_init 11 rfl) rfl rfl ?_
  refine gv_getR (b := 24) (ft_d o_Hi_init 12 rfl) rfl fl_Hi_11 (by decide +kernel) rfl (by decide +kernel) (by simp [z_St_init, z_PS_init, z_TL_init]) ?_
  refine gv_iload_n (ft_d o_Hi_init 13 rfl) rfl rfl ?_
  refine gv_new (ft_d o_Hi_init 14 rfl) rfl (by decide +kernel) ck_6 cl_Hi_9 in_6 iz_6 rfl nd_6 (Nat.le_of_ble_eq_true rfl) (Nat.le_of_ble_eq_true rfl) ?_
  refine gv_dup (ft_d o_Hi_init 15 rfl) rfl rfl ?_
  refine gv_callN (K' := kI_St_init) (b := 47) (As := []) (ft_d o_Hi_init 16 rfl) rfl mi_Hi_17 li_St_init lw_St_init rfl rfl ⟨(Nat.le_of_ble_eq_true rfl), (Nat.le_of_ble_eq_true rfl)⟩ rfl rfl (Nat.le_of_ble_eq_true rfl) (Nat.le_of_ble_eq_true rfl) (Nat.le_of_ble_eq_true rfl) (gc_St_init (a := 47) gsSt_47) ?_
  intro n1 h1 z1 w
  obtain ⟨w1, w2, w3⟩ := w
  rw [w1, w2, w3]
  refine ⟨Nat.le_of_ble_eq_true rfl, ?_⟩
  refine gv_aast (N := 8) (i := 2) (ft_d o_Hi_init 17 rfl) rfl (by decide +kernel) (by decide) (by decide +kernel) (by decide +kernel) (ck_6).1 rfl ?_
  refine gv_iinc (w := 3) (L' := [some (.inr (.inr 23)), some (.inl (3))]) (ft_d o_Hi_init 18 rfl) rfl rfl (by decide +kernel) (Nat.le_of_ble_eq_true rfl) rfl ?_
  refine gv_goto (ft_d o_Hi_init 19 rfl) rfl ?_
  refine gv_iload_n (ft_d o_Hi_init 8 rfl) rfl rfl ?_
  refine gv_bipush (ft_d o_Hi_init 9 rfl) rfl rfl ?_
  refine gv_icmp_ge (ft_d o_Hi_init 10 rfl) rfl rfl (fun q => absurd q (by decide)) (fun _ => ?_)
  refine gv_aload_n (ft_d o_Hi_init 11 rfl) rfl rfl ?_
  refine gv_getR (b := 24) (ft_d o_Hi_init 12 rfl) rfl fl_Hi_11 (by decide +kernel) rfl (by decide +kernel) (by simp [z_St_init, z_PS_init, z_TL_init]) ?_
  refine gv_iload_n (ft_d o_Hi_init 13 rfl) rfl rfl ?_
  refine gv_new (ft_d o_Hi_init 14 rfl) rfl (by decide +kernel) ck_6 cl_Hi_9 in_6 iz_6 rfl nd_6 (Nat.le_of_ble_eq_true rfl) (Nat.le_of_ble_eq_true rfl) ?_
  refine gv_dup (ft_d o_Hi_init 15 rfl) rfl rfl ?_
  refine gv_callN (K' := kI_St_init) (b := 58) (As := []) (ft_d o_Hi_init 16 rfl) rfl mi_Hi_17 li_St_init lw_St_init rfl rfl ⟨(Nat.le_of_ble_eq_true rfl), (Nat.le_of_ble_eq_true rfl)⟩ rfl rfl (Nat.le_of_ble_eq_true rfl) (Nat.le_of_ble_eq_true rfl) (Nat.le_of_ble_eq_true rfl) (gc_St_init (a := 58) gsSt_58) ?_
  intro n1 h1 z1 w
  obtain ⟨w1, w2, w3⟩ := w
  rw [w1, w2, w3]
  refine ⟨Nat.le_of_ble_eq_true rfl, ?_⟩
  refine gv_aast (N := 8) (i := 3) (ft_d o_Hi_init 17 rfl) rfl (by decide +kernel) (by decide) (by decide +kernel) (by decide +kernel) (ck_6).1 rfl ?_
  refine gv_iinc (w := 4) (L' := [some (.inr (.inr 23)), some (.inl (4))]) (ft_d o_Hi_init 18 rfl) rfl rfl (by decide +kernel) (Nat.le_of_ble_eq_true rfl) rfl ?_
  refine gv_goto (ft_d o_Hi_init 19 rfl) rfl ?_
  refine gv_iload_n (ft_d o_Hi_init 8 rfl) rfl rfl ?_
  refine gv_bipush (ft_d o_Hi_init 9 rfl) rfl rfl ?_
  refine gv_icmp_ge (ft_d o_Hi_init 10 rfl) rfl rfl (fun q => absurd q (by decide)) (fun _ => ?_)
  refine gv_aload_n (ft_d o_Hi_init 11 rfl) rfl rfl ?_
  refine gv_getR (b := 24) (ft_d o_Hi_init 12 rfl) rfl fl_Hi_11 (by decide +kernel) rfl (by decide +kernel) (by simp [z_St_init, z_PS_init, z_TL_init]) ?_
  refine gv_iload_n (ft_d o_Hi_init 13 rfl) rfl rfl ?_
  refine gv_new (ft_d o_Hi_init 14 rfl) rfl (by decide +kernel) ck_6 cl_Hi_9 in_6 iz_6 rfl nd_6 (Nat.le_of_ble_eq_true rfl) (Nat.le_of_ble_eq_true rfl) ?_
  refine gv_dup (ft_d o_Hi_init 15 rfl) rfl rfl ?_
  refine gv_callN (K' := kI_St_init) (b := 69) (As := []) (ft_d o_Hi_init 16 rfl) rfl mi_Hi_17 li_St_init lw_St_init rfl rfl ⟨(Nat.le_of_ble_eq_true rfl), (Nat.le_of_ble_eq_true rfl)⟩ rfl rfl (Nat.le_of_ble_eq_true rfl) (Nat.le_of_ble_eq_true rfl) (Nat.le_of_ble_eq_true rfl) (gc_St_init (a := 69) gsSt_69) ?_
  intro n1 h1 z1 w
  obtain ⟨w1, w2, w3⟩ := w
  rw [w1, w2, w3]
  refine ⟨Nat.le_of_ble_eq_true rfl, ?_⟩
  refine gv_aast (N := 8) (i := 4) (ft_d o_Hi_init 17 rfl) rfl (by decide +kernel) (by decide) (by decide +kernel) (by decide +kernel) (ck_6).1 rfl ?_
  refine gv_iinc (w := 5) (L' := [some (.inr (.inr 23)), some (.inl (5))]) (ft_d o_Hi_init 18 rfl) rfl rfl (by decide +kernel) (Nat.le_of_ble_eq_true rfl) rfl ?_
  refine gv_goto (ft_d o_Hi_init 19 rfl) rfl ?_
  refine gv_iload_n (ft_d o_Hi_init 8 rfl) rfl rfl ?_
  refine gv_bipush (ft_d o_Hi_init 9 rfl) rfl rfl ?_
  refine gv_icmp_ge (ft_d o_Hi_init 10 rfl) rfl rfl (fun q => absurd q (by decide)) (fun _ => ?_)
  refine gv_aload_n (ft_d o_Hi_init 11 rfl) rfl rfl ?_
  refine gv_getR (b := 24) (ft_d o_Hi_init 12 rfl) rfl fl_Hi_11 (by decide +kernel) rfl (by decide +kernel) (by simp [z_St_init, z_PS_init, z_TL_init]) ?_
  refine gv_iload_n (ft_d o_Hi_init 13 rfl) rfl rfl ?_
  refine gv_new (ft_d o_Hi_init 14 rfl) rfl (by decide +kernel) ck_6 cl_Hi_9 in_6 iz_6 rfl nd_6 (Nat.le_of_ble_eq_true rfl) (Nat.le_of_ble_eq_true rfl) ?_
  refine gv_dup (ft_d o_Hi_init 15 rfl) rfl rfl ?_
  refine gv_callN (K' := kI_St_init) (b := 80) (As := []) (ft_d o_Hi_init 16 rfl) rfl mi_Hi_17 li_St_init lw_St_init rfl rfl ⟨(Nat.le_of_ble_eq_true rfl), (Nat.le_of_ble_eq_true rfl)⟩ rfl rfl (Nat.le_of_ble_eq_true rfl) (Nat.le_of_ble_eq_true rfl) (Nat.le_of_ble_eq_true rfl) (gc_St_init (a := 80) gsSt_80) ?_
  intro n1 h1 z1 w
  obtain ⟨w1, w2, w3⟩ := w
  rw [w1, w2, w3]
  refine ⟨Nat.le_of_ble_eq_true rfl, ?_⟩
  refine gv_aast (N := 8) (i := 5) (ft_d o_Hi_init 17 rfl) rfl (by decide +kernel) (by decide) (by decide +kernel) (by decide +kernel) (ck_6).1 rfl ?_
  refine gv_iinc (w := 6) (L' := [some (.inr (.inr 23)), some (.inl (6))]) (ft_d o_Hi_init 18 rfl) rfl rfl (by decide +kernel) (Nat.le_of_ble_eq_true rfl) rfl ?_
  refine gv_goto (ft_d o_Hi_init 19 rfl) rfl ?_
  refine gv_iload_n (ft_d o_Hi_init 8 rfl) rfl rfl ?_
  refine gv_bipush (ft_d o_Hi_init 9 rfl) rfl rfl ?_
  refine gv_icmp_ge (ft_d o_Hi_init 10 rfl) rfl rfl (fun q => absurd q (by decide)) (fun _ => ?_)
  refine gv_aload_n (ft_d o_Hi_init 11 rfl) rfl rfl ?_
  refine gv_getR (b := 24) (ft_d o_Hi_init 12 rfl) rfl fl_Hi_11 (by decide +kernel) rfl (by decide +kernel) (by simp [z_St_init, z_PS_init, z_TL_init]) ?_
  refine gv_iload_n (ft_d o_Hi_init 13 rfl) rfl rfl ?_
  refine gv_new (ft_d o_Hi_init 14 rfl) rfl (by decide +kernel) ck_6 cl_Hi_9 in_6 iz_6 rfl nd_6 (Nat.le_of_ble_eq_true rfl) (Nat.le_of_ble_eq_true rfl) ?_
  refine gv_dup (ft_d o_Hi_init 15 rfl) rfl rfl ?_
  refine gv_callN (K' := kI_St_init) (b := 91) (As := []) (ft_d o_Hi_init 16 rfl) rfl mi_Hi_17 li_St_init lw_St_init rfl rfl ⟨(Nat.le_of_ble_eq_true rfl), (Nat.le_of_ble_eq_true rfl)⟩ rfl rfl (Nat.le_of_ble_eq_true rfl) (Nat.le_of_ble_eq_true rfl) (Nat.le_of_ble_eq_true rfl) (gc_St_init (a := 91) gsSt_91) ?_
  intro n1 h1 z1 w
  obtain ⟨w1, w2, w3⟩ := w
  rw [w1, w2, w3]
  refine ⟨Nat.le_of_ble_eq_true rfl, ?_⟩
  refine gv_aast (N := 8) (i := 6) (ft_d o_Hi_init 17 rfl) rfl (by decide +kernel) (by decide) (by decide +kernel) (by decide +kernel) (ck_6).1 rfl ?_
  refine gv_iinc (w := 7) (L' := [some (.inr (.inr 23)), some (.inl (7))]) (ft_d o_Hi_init 18 rfl) rfl rfl (by decide +kernel) (Nat.le_of_ble_eq_true rfl) rfl ?_
  refine gv_goto (ft_d o_Hi_init 19 rfl) rfl ?_
  refine gv_iload_n (ft_d o_Hi_init 8 rfl) rfl rfl ?_
  refine gv_bipush (ft_d o_Hi_init 9 rfl) rfl rfl ?_
  refine gv_icmp_ge (ft_d o_Hi_init 10 rfl) rfl rfl (fun q => absurd q (by decide)) (fun _ => ?_)
  refine gv_aload_n (ft_d o_Hi_init 11 rfl) rfl rfl ?_
  refine gv_getR (b := 24) (ft_d o_Hi_init 12 rfl) rfl fl_Hi_11 (by decide +kernel) rfl (by decide +kernel) (by simp [z_St_init, z_PS_init, z_TL_init]) ?_
  refine gv_iload_n (ft_d o_Hi_init 13 rfl) rfl rfl ?_
  refine gv_new (ft_d o_Hi_init 14 rfl) rfl (by decide +kernel) ck_6 cl_Hi_9 in_6 iz_6 rfl nd_6 (Nat.le_of_ble_eq_true rfl) (Nat.le_of_ble_eq_true rfl) ?_
  refine gv_dup (ft_d o_Hi_init 15 rfl) rfl rfl ?_
  refine gv_callN (K' := kI_St_init) (b := 102) (As := []) (ft_d o_Hi_init 16 rfl) rfl mi_Hi_17 li_St_init lw_St_init rfl rfl ⟨(Nat.le_of_ble_eq_true rfl), (Nat.le_of_ble_eq_true rfl)⟩ rfl rfl (Nat.le_of_ble_eq_true rfl) (Nat.le_of_ble_eq_true rfl) (Nat.le_of_ble_eq_true rfl) (gc_St_init (a := 102) gsSt_102) ?_
  intro n1 h1 z1 w
  obtain ⟨w1, w2, w3⟩ := w
  rw [w1, w2, w3]
  refine ⟨Nat.le_of_ble_eq_true rfl, ?_⟩
  refine gv_aast (N := 8) (i := 7) (ft_d o_Hi_init 17 rfl) rfl (by decide +kernel) (by decide) (by decide +kernel) (by decide +kernel) (ck_6).1 rfl ?_
  refine gv_iinc (w := 8) (L' := [some (.inr (.inr 23)), some (.inl (8))]) (ft_d o_Hi_init 18 rfl) rfl rfl (by decide +kernel) (Nat.le_of_ble_eq_true rfl) rfl ?_
  refine gv_goto (ft_d o_Hi_init 19 rfl) rfl ?_
  refine gv_iload_n (ft_d o_Hi_init 8 rfl) rfl rfl ?_
  refine gv_bipush (ft_d o_Hi_init 9 rfl) rfl rfl ?_
  refine gv_icmp_ge (ft_d o_Hi_init 10 rfl) rfl rfl (fun _ => ?_) (fun q => absurd (by decide) q)
  exact gv_return (ft_d o_Hi_init 20 rfl) rfl rfl ⟨rfl, rfl, rfl⟩
def z_Ta_init (z : gZ) : gZ := (113, 0) :: z
set_option maxRecDepth 20000 in
theorem gc_Ta_init {h : ftH} {z : gZ} : gC kI_Ta_init [.inr (.inr 113)] (113 + 1) h z (fun n1 h1 z1 => n1 = 115 ∧ h1 = h ∧ z1 = z_Ta_init z) := by
  refine g_enter (j := 0) (L := [some (.inr (.inr 113))]) rfl rfl rfl (Nat.le_of_ble_eq_true rfl) rfl ?_
  refine gv_aload_n (ft_d o_Ta_init 0 rfl) rfl rfl ?_
  refine gv_objInit (ft_d o_Ta_init 1 rfl) rfl lo_Ta_init oi_i oi_c (Nat.le_of_ble_eq_true rfl) (Or.inr ⟨rfl, (Nat.le_of_ble_eq_true rfl)⟩) (Nat.le_of_ble_eq_true rfl) ?_
  refine gv_aload_n (ft_d o_Ta_init 2 rfl) rfl rfl ?_
  refine gv_sipush (ft_d o_Ta_init 3 rfl) rfl rfl ?_
  refine gv_newB (ft_d o_Ta_init 4 rfl) rfl (by decide +kernel) rfl (Nat.le_of_ble_eq_true rfl) (Nat.le_of_ble_eq_true rfl) (Nat.le_of_ble_eq_true rfl) ?_
  refine gv_putR (ft_d o_Ta_init 5 rfl) rfl fl_Ta_9 rfl rfl (fun x => ⟨rfl, rfl⟩) (by decide +kernel) rfl (by decide +kernel) ?_
  exact gv_return (ft_d o_Ta_init 6 rfl) rfl rfl ⟨rfl, rfl, rfl⟩
def z_Cv_init (a : Nat) (z : gZ) : gZ := (a, 4) :: (a, 3) :: (a, 2) :: (a, 1) :: (a, 0) :: (a, 7) :: z
set_option maxRecDepth 20000 in
theorem gc_Cv_init {h : ftH} {z : gZ} {a : Nat} {N : Nat} (hs : gs_Cv a N) (hb : N ≤ 200) (hm : ft_mul 2 (N : Int) = ((2 * N : Nat) : Int)) (hq : ft_add ((2 * N : Nat) : Int) 1 = ((2 * N + 1 : Nat) : Int)) : gC (kI_Cv_init N) [.inr (.inr a), .inl (N : Int)] (a + 1) h z (fun n1 h1 z1 => n1 = a + 7 ∧ h1 = h ∧ z1 = z_Cv_init a z) := by
  obtain ⟨s0, s1, s2, s3, s4, s5, s6, l7, l0, l1, l2, l3, l4⟩ := hs
  refine g_enter (j := 0) (L := [some (.inr (.inr a)), some (.inl (N : Int))]) rfl rfl rfl (Nat.le_of_ble_eq_true rfl) rfl ?_
  refine gv_aload_n (ft_d o_Cv_init 0 rfl) rfl rfl ?_
  refine gv_objInit (ft_d o_Cv_init 1 rfl) rfl lo_Cv_init oi_i oi_c (Nat.le_of_ble_eq_true rfl) (Or.inr ⟨rfl, (Nat.le_of_ble_eq_true rfl)⟩) (Nat.le_of_ble_eq_true rfl) ?_
  refine gv_aload_n (ft_d o_Cv_init 2 rfl) rfl rfl ?_
  refine gv_bipush (ft_d o_Cv_init 3 rfl) rfl rfl ?_
  refine gv_newI (ft_d o_Cv_init 4 rfl) rfl s1 rfl (Nat.le_of_ble_eq_true rfl) (Nat.le_of_ble_eq_true rfl) (by show _ ≤ 0 + 33 + N + N + N + (2 * N + 1) + (2 * N + 1); omega) ?_
  refine gv_putR (ft_d o_Cv_init 5 rfl) rfl fl_Cv_9 rfl rfl (fun x => ⟨rfl, rfl⟩) s0 rfl l7 ?_
  refine gv_aload_n (ft_d o_Cv_init 6 rfl) rfl rfl ?_
  refine gv_iload_n (ft_d o_Cv_init 7 rfl) rfl rfl ?_
  refine gv_newI (ft_d o_Cv_init 8 rfl) rfl s2 rfl (by omega) (Nat.le_of_ble_eq_true rfl) (by show _ ≤ 0 + 33 + N + N + N + (2 * N + 1) + (2 * N + 1); omega) ?_
  refine gv_putR (ft_d o_Cv_init 9 rfl) rfl fl_Cv_15 rfl rfl (fun x => ⟨rfl, rfl⟩) s0 rfl l0 ?_
  refine gv_aload_n (ft_d o_Cv_init 10 rfl) rfl rfl ?_
  refine gv_iload_n (ft_d o_Cv_init 11 rfl) rfl rfl ?_
  refine gv_newI (ft_d o_Cv_init 12 rfl) rfl s3 rfl (by omega) (Nat.le_of_ble_eq_true rfl) (by show _ ≤ 0 + 33 + N + N + N + (2 * N + 1) + (2 * N + 1); omega) ?_
  refine gv_putR (ft_d o_Cv_init 13 rfl) rfl fl_Cv_18 rfl rfl (fun x => ⟨rfl, rfl⟩) s0 rfl l1 ?_
  refine gv_aload_n (ft_d o_Cv_init 14 rfl) rfl rfl ?_
  refine gv_iload_n (ft_d o_Cv_init 15 rfl) rfl rfl ?_
  refine gv_newJ (ft_d o_Cv_init 16 rfl) rfl s4 rfl (by omega) (Nat.le_of_ble_eq_true rfl) (by show _ ≤ 0 + 33 + N + N + N + (2 * N + 1) + (2 * N + 1); omega) ?_
  refine gv_putR (ft_d o_Cv_init 17 rfl) rfl fl_Cv_21 rfl rfl (fun x => ⟨rfl, rfl⟩) s0 rfl l2 ?_
  refine gv_aload_n (ft_d o_Cv_init 18 rfl) rfl rfl ?_
  refine gv_iconst (ft_d o_Cv_init 19 rfl) rfl rfl ?_
  refine gv_iload_n (ft_d o_Cv_init 20 rfl) rfl rfl ?_
  refine gv_imul (ft_d o_Cv_init 21 rfl) rfl hm ?_
  refine gv_iconst (ft_d o_Cv_init 22 rfl) rfl rfl ?_
  refine gv_iadd (ft_d o_Cv_init 23 rfl) rfl hq ?_
  refine gv_newJ (ft_d o_Cv_init 24 rfl) rfl s5 rfl (by omega) (Nat.le_of_ble_eq_true rfl) (by show _ ≤ 0 + 33 + N + N + N + (2 * N + 1) + (2 * N + 1); omega) ?_
  refine gv_putR (ft_d o_Cv_init 25 rfl) rfl fl_Cv_25 rfl rfl (fun x => ⟨rfl, rfl⟩) s0 rfl l3 ?_
  refine gv_aload_n (ft_d o_Cv_init 26 rfl) rfl rfl ?_
  refine gv_iconst (ft_d o_Cv_init 27 rfl) rfl rfl ?_
  refine gv_iload_n (ft_d o_Cv_init 28 rfl) rfl rfl ?_
  refine gv_imul (ft_d o_Cv_init 29 rfl) rfl hm ?_
  refine gv_iconst (ft_d o_Cv_init 30 rfl) rfl rfl ?_
  refine gv_iadd (ft_d o_Cv_init 31 rfl) rfl hq ?_
  refine gv_newI (ft_d o_Cv_init 32 rfl) rfl s6 rfl (by omega) (Nat.le_of_ble_eq_true rfl) (by show _ ≤ 0 + 33 + N + N + N + (2 * N + 1) + (2 * N + 1); omega) ?_
  refine gv_putR (ft_d o_Cv_init 33 rfl) rfl fl_Cv_28 rfl rfl (fun x => ⟨rfl, rfl⟩) s0 rfl l4 ?_
  exact gv_return (ft_d o_Cv_init 34 rfl) rfl rfl ⟨rfl, rfl, rfl⟩
def z_Co_init (z : gZ) : gZ := (122, 9) :: (122, 8) :: (122, 7) :: (122, 6) :: (122, 5) :: (122, 4) :: (122, 3) :: (122, 2) :: (122, 1) :: (122, 0) :: z
set_option maxRecDepth 20000 in
theorem gc_Co_init {h : ftH} {z : gZ} : gC kI_Co_init [.inr (.inr 122)] (122 + 1) h z (fun n1 h1 z1 => n1 = 133 ∧ h1 = h ∧ z1 = z_Co_init z) := by
  refine g_enter (j := 0) (L := [some (.inr (.inr 122))]) rfl rfl rfl (Nat.le_of_ble_eq_true rfl) rfl ?_
  refine gv_aload_n (ft_d o_Co_init 0 rfl) rfl rfl ?_
  refine gv_objInit (ft_d o_Co_init 1 rfl) rfl lo_Co_init oi_i oi_c (Nat.le_of_ble_eq_true rfl) (Or.inr ⟨rfl, (Nat.le_of_ble_eq_true rfl)⟩) (Nat.le_of_ble_eq_true rfl) ?_
  refine gv_aload_n (ft_d o_Co_init 2 rfl) rfl rfl ?_
  refine gv_sipush (ft_d o_Co_init 3 rfl) rfl rfl ?_
  refine gv_newJ (ft_d o_Co_init 4 rfl) rfl (by decide +kernel) rfl (Nat.le_of_ble_eq_true rfl) (Nat.le_of_ble_eq_true rfl) (Nat.le_of_ble_eq_true rfl) ?_
  refine gv_putR (ft_d o_Co_init 5 rfl) rfl fl_Co_11 rfl rfl (fun x => ⟨rfl, rfl⟩) (by decide +kernel) rfl (by decide +kernel) ?_
  refine gv_aload_n (ft_d o_Co_init 6 rfl) rfl rfl ?_
  refine gv_sipush (ft_d o_Co_init 7 rfl) rfl rfl ?_
  refine gv_newI (ft_d o_Co_init 8 rfl) rfl (by decide +kernel) rfl (Nat.le_of_ble_eq_true rfl) (Nat.le_of_ble_eq_true rfl) (Nat.le_of_ble_eq_true rfl) ?_
  refine gv_putR (ft_d o_Co_init 9 rfl) rfl fl_Co_15 rfl rfl (fun x => ⟨rfl, rfl⟩) (by decide +kernel) rfl (by decide +kernel) ?_
  refine gv_aload_n (ft_d o_Co_init 10 rfl) rfl rfl ?_
  refine gv_sipush (ft_d o_Co_init 11 rfl) rfl rfl ?_
  refine gv_newI (ft_d o_Co_init 12 rfl) rfl (by decide +kernel) rfl (Nat.le_of_ble_eq_true rfl) (Nat.le_of_ble_eq_true rfl) (Nat.le_of_ble_eq_true rfl) ?_
  refine gv_putR (ft_d o_Co_init 13 rfl) rfl fl_Co_19 rfl rfl (fun x => ⟨rfl, rfl⟩) (by decide +kernel) rfl (by decide +kernel) ?_
  refine gv_aload_n (ft_d o_Co_init 14 rfl) rfl rfl ?_
  refine gv_sipush (ft_d o_Co_init 15 rfl) rfl rfl ?_
  refine gv_newI (ft_d o_Co_init 16 rfl) rfl (by decide +kernel) rfl (Nat.le_of_ble_eq_true rfl) (Nat.le_of_ble_eq_true rfl) (Nat.le_of_ble_eq_true rfl) ?_
  refine gv_putR (ft_d o_Co_init 17 rfl) rfl fl_Co_22 rfl rfl (fun x => ⟨rfl, rfl⟩) (by decide +kernel) rfl (by decide +kernel) ?_
  refine gv_aload_n (ft_d o_Co_init 18 rfl) rfl rfl ?_
  refine gv_sipush (ft_d o_Co_init 19 rfl) rfl rfl ?_
  refine gv_newI (ft_d o_Co_init 20 rfl) rfl (by decide +kernel) rfl (Nat.le_of_ble_eq_true rfl) (Nat.le_of_ble_eq_true rfl) (Nat.le_of_ble_eq_true rfl) ?_
  refine gv_putR (ft_d o_Co_init 21 rfl) rfl fl_Co_25 rfl rfl (fun x => ⟨rfl, rfl⟩) (by decide +kernel) rfl (by decide +kernel) ?_
  refine gv_aload_n (ft_d o_Co_init 22 rfl) rfl rfl ?_
  refine gv_sipush (ft_d o_Co_init 23 rfl) rfl rfl ?_
  refine gv_newZ (ft_d o_Co_init 24 rfl) rfl (by decide +kernel) rfl (Nat.le_of_ble_eq_true rfl) (Nat.le_of_ble_eq_true rfl) (Nat.le_of_ble_eq_true rfl) ?_
  refine gv_putR (ft_d o_Co_init 25 rfl) rfl fl_Co_28 rfl rfl (fun x => ⟨rfl, rfl⟩) (by decide +kernel) rfl (by decide +kernel) ?_
  refine gv_aload_n (ft_d o_Co_init 26 rfl) rfl rfl ?_
  refine gv_sipush (ft_d o_Co_init 27 rfl) rfl rfl ?_
  refine gv_newI (ft_d o_Co_init 28 rfl) rfl (by decide +kernel) rfl (Nat.le_of_ble_eq_true rfl) (Nat.le_of_ble_eq_true rfl) (Nat.le_of_ble_eq_true rfl) ?_
  refine gv_putR (ft_d o_Co_init 29 rfl) rfl fl_Co_32 rfl rfl (fun x => ⟨rfl, rfl⟩) (by decide +kernel) rfl (by decide +kernel) ?_
  refine gv_aload_n (ft_d o_Co_init 30 rfl) rfl rfl ?_
  refine gv_sipush (ft_d o_Co_init 31 rfl) rfl rfl ?_
  refine gv_newI (ft_d o_Co_init 32 rfl) rfl (by decide +kernel) rfl (Nat.le_of_ble_eq_true rfl) (Nat.le_of_ble_eq_true rfl) (Nat.le_of_ble_eq_true rfl) ?_
  refine gv_putR (ft_d o_Co_init 33 rfl) rfl fl_Co_35 rfl rfl (fun x => ⟨rfl, rfl⟩) (by decide +kernel) rfl (by decide +kernel) ?_
  refine gv_aload_n (ft_d o_Co_init 34 rfl) rfl rfl ?_
  refine gv_sipush (ft_d o_Co_init 35 rfl) rfl rfl ?_
  refine gv_newI (ft_d o_Co_init 36 rfl) rfl (by decide +kernel) rfl (Nat.le_of_ble_eq_true rfl) (Nat.le_of_ble_eq_true rfl) (Nat.le_of_ble_eq_true rfl) ?_
  refine gv_putR (ft_d o_Co_init 37 rfl) rfl fl_Co_38 rfl rfl (fun x => ⟨rfl, rfl⟩) (by decide +kernel) rfl (by decide +kernel) ?_
  refine gv_aload_n (ft_d o_Co_init 38 rfl) rfl rfl ?_
  refine gv_sipush (ft_d o_Co_init 39 rfl) rfl rfl ?_
  refine gv_newI (ft_d o_Co_init 40 rfl) rfl (by decide +kernel) rfl (Nat.le_of_ble_eq_true rfl) (Nat.le_of_ble_eq_true rfl) (Nat.le_of_ble_eq_true rfl) ?_
  refine gv_putR (ft_d o_Co_init 41 rfl) rfl fl_Co_41 rfl rfl (fun x => ⟨rfl, rfl⟩) (by decide +kernel) rfl (by decide +kernel) ?_
  exact gv_return (ft_d o_Co_init 42 rfl) rfl rfl ⟨rfl, rfl, rfl⟩
def z_SP_init (z : gZ) : gZ := (289, 3) :: (289, 2) :: (289, 1) :: (289, 0) :: z
set_option maxRecDepth 20000 in
theorem gc_SP_init {h : ftH} {z : gZ} : gC kI_SP_init [.inr (.inr 289)] (289 + 1) h z (fun n1 h1 z1 => n1 = 294 ∧ h1 = h ∧ z1 = z_SP_init z) := by
  refine g_enter (j := 0) (L := [some (.inr (.inr 289))]) rfl rfl rfl (Nat.le_of_ble_eq_true rfl) rfl ?_
  refine gv_aload_n (ft_d o_SP_init 0 rfl) rfl rfl ?_
  refine gv_objInit (ft_d o_SP_init 1 rfl) rfl lo_SP_init oi_i oi_c (Nat.le_of_ble_eq_true rfl) (Or.inr ⟨rfl, (Nat.le_of_ble_eq_true rfl)⟩) (Nat.le_of_ble_eq_true rfl) ?_
  refine gv_aload_n (ft_d o_SP_init 2 rfl) rfl rfl ?_
  refine gv_sipush (ft_d o_SP_init 3 rfl) rfl rfl ?_
  refine gv_newJ (ft_d o_SP_init 4 rfl) rfl (by decide +kernel) rfl (Nat.le_of_ble_eq_true rfl) (Nat.le_of_ble_eq_true rfl) (Nat.le_of_ble_eq_true rfl) ?_
  refine gv_putR (ft_d o_SP_init 5 rfl) rfl fl_SP_11 rfl rfl (fun x => ⟨rfl, rfl⟩) (by decide +kernel) rfl (by decide +kernel) ?_
  refine gv_aload_n (ft_d o_SP_init 6 rfl) rfl rfl ?_
  refine gv_sipush (ft_d o_SP_init 7 rfl) rfl rfl ?_
  refine gv_newI (ft_d o_SP_init 8 rfl) rfl (by decide +kernel) rfl (Nat.le_of_ble_eq_true rfl) (Nat.le_of_ble_eq_true rfl) (Nat.le_of_ble_eq_true rfl) ?_
  refine gv_putR (ft_d o_SP_init 9 rfl) rfl fl_SP_15 rfl rfl (fun x => ⟨rfl, rfl⟩) (by decide +kernel) rfl (by decide +kernel) ?_
  refine gv_aload_n (ft_d o_SP_init 10 rfl) rfl rfl ?_
  refine gv_sipush (ft_d o_SP_init 11 rfl) rfl rfl ?_
  refine gv_newI (ft_d o_SP_init 12 rfl) rfl (by decide +kernel) rfl (Nat.le_of_ble_eq_true rfl) (Nat.le_of_ble_eq_true rfl) (Nat.le_of_ble_eq_true rfl) ?_
  refine gv_putR (ft_d o_SP_init 13 rfl) rfl fl_SP_19 rfl rfl (fun x => ⟨rfl, rfl⟩) (by decide +kernel) rfl (by decide +kernel) ?_
  refine gv_aload_n (ft_d o_SP_init 14 rfl) rfl rfl ?_
  refine gv_sipush (ft_d o_SP_init 15 rfl) rfl rfl ?_
  refine gv_newI (ft_d o_SP_init 16 rfl) rfl (by decide +kernel) rfl (Nat.le_of_ble_eq_true rfl) (Nat.le_of_ble_eq_true rfl) (Nat.le_of_ble_eq_true rfl) ?_
  refine gv_putR (ft_d o_SP_init 17 rfl) rfl fl_SP_22 rfl rfl (fun x => ⟨rfl, rfl⟩) (by decide +kernel) rfl (by decide +kernel) ?_
  exact gv_return (ft_d o_SP_init 18 rfl) rfl rfl ⟨rfl, rfl, rfl⟩
def z_Re_init (z : gZ) : gZ := (294, 0) :: z
def h_Re_init (h : ftH) : ftH := ft_hs (h) 294 2 (-1)
set_option maxRecDepth 20000 in
theorem gc_Re_init {h : ftH} {z : gZ} : gC kI_Re_init [.inr (.inr 294)] (294 + 1) h z (fun n1 h1 z1 => n1 = 296 ∧ h1 = h_Re_init h ∧ z1 = z_Re_init z) := by
  refine g_enter (j := 0) (L := [some (.inr (.inr 294))]) rfl rfl rfl (Nat.le_of_ble_eq_true rfl) rfl ?_
  refine gv_aload_n (ft_d o_Re_init 0 rfl) rfl rfl ?_
  refine gv_objInit (ft_d o_Re_init 1 rfl) rfl lo_Re_init oi_i oi_c (Nat.le_of_ble_eq_true rfl) (Or.inr ⟨rfl, (Nat.le_of_ble_eq_true rfl)⟩) (Nat.le_of_ble_eq_true rfl) ?_
  refine gv_aload_n (ft_d o_Re_init 2 rfl) rfl rfl ?_
  refine gv_sipush (ft_d o_Re_init 3 rfl) rfl rfl ?_
  refine gv_newB (ft_d o_Re_init 4 rfl) rfl (by decide +kernel) rfl (Nat.le_of_ble_eq_true rfl) (Nat.le_of_ble_eq_true rfl) (Nat.le_of_ble_eq_true rfl) ?_
  refine gv_putR (ft_d o_Re_init 5 rfl) rfl fl_Re_11 rfl rfl (fun x => ⟨rfl, rfl⟩) (by decide +kernel) rfl (by decide +kernel) ?_
  refine gv_aload_n (ft_d o_Re_init 6 rfl) rfl rfl ?_
  refine gv_iconst (ft_d o_Re_init 7 rfl) rfl rfl ?_
  refine gv_putI (ft_d o_Re_init 8 rfl) rfl fl_Re_15 rfl rfl (by decide +kernel) rfl ?_
  exact gv_return (ft_d o_Re_init 9 rfl) rfl rfl ⟨rfl, rfl, rfl⟩
/-- what Choice's constructor does (its rule for rows of rows stands in a later part) -/
def gRow (c : Nat) : gZ := (List.range 68).map fun j => (c, j)
def z_Ch_init (z : gZ) : gZ := (143, 8) :: (143, 7) :: (143, 6) :: (143, 5) :: (gRow 217 ++ ((143, 4) :: (gRow 148 ++ ((143, 1) :: z_PS_init 145 ((143, 0) :: z)))))
def z_FT_init (z : gZ) : gZ := (0, 15) :: z_Cv_init 302 ((0, 14) :: z_PS_init 299 ((0, 13) :: z_PS_init 296 ((0, 12) :: z_Re_init ((0, 11) :: z_SP_init ((0, 10) :: z_Ch_init ((0, 9) :: z_Cv_init 136 ((0, 8) :: z_PS_init 133 ((0, 7) :: z_Co_init ((0, 6) :: z_Cv_init 115 ((0, 3) :: z_Ta_init ((0, 2) :: z_Hi_init ((0, 1) :: z_St_init 12 ((0, 0) :: z_St_init 1 (z))))))))))))))
def h_FT_init (h : ftH) : ftH := h_Re_init (ft_hs (ft_hs (h_Hi_init (ft_hs (ft_hs (h) 1 0 8) 12 0 8)) 0 4 (-2)) 0 5 (0))
set_option maxRecDepth 20000 in
theorem gc_FT_init {h : ftH} {z : gZ} (hCh : ∀ {h : ftH} {z : gZ}, gC kI_Ch_init [.inr (.inr 143)] 144 h z (fun n1 h1 z1 => n1 = 289 ∧ h1 = h ∧ z1 = z_Ch_init z)) : gC kI_FT_init [.inr (.inr 0)] (0 + 1) h z (fun n1 h1 z1 => n1 = 309 ∧ h1 = h_FT_init h ∧ z1 = z_FT_init z) := by
  refine g_enter (j := 0) (L := [some (.inr (.inr 0))]) rfl rfl rfl (Nat.le_of_ble_eq_true rfl) rfl ?_
  refine gv_aload_n (ft_d o_FT_init 0 rfl) rfl rfl ?_
  refine gv_objInit (ft_d o_FT_init 1 rfl) rfl lo_FT_init oi_i oi_c (Nat.le_of_ble_eq_true rfl) (Or.inr ⟨rfl, (Nat.le_of_ble_eq_true rfl)⟩) (Nat.le_of_ble_eq_true rfl) ?_
  refine gv_aload_n (ft_d o_FT_init 2 rfl) rfl rfl ?_
  refine gv_new (ft_d o_FT_init 3 rfl) rfl (by decide +kernel) ck_6 cl_FT_9 in_6 iz_6 rfl nd_6 (Nat.le_of_ble_eq_true rfl) (Nat.le_of_ble_eq_true rfl) ?_
  refine gv_dup (ft_d o_FT_init 4 rfl) rfl rfl ?_
  refine gv_callN (K' := kI_St_init) (b := 1) (As := []) (ft_d o_FT_init 5 rfl) rfl mi_FT_11 li_St_init lw_St_init rfl rfl ⟨(Nat.le_of_ble_eq_true rfl), (Nat.le_of_ble_eq_true rfl)⟩ rfl rfl (Nat.le_of_ble_eq_true rfl) (Nat.le_of_ble_eq_true rfl) (Nat.le_of_ble_eq_true rfl) (gc_St_init (a := 1) gsSt_1) ?_
  intro n1 h1 z1 w
  obtain ⟨w1, w2, w3⟩ := w
  rw [w1, w2, w3]
  refine ⟨Nat.le_of_ble_eq_true rfl, ?_⟩
  refine gv_putR (ft_d o_FT_init 6 rfl) rfl fl_FT_12 rfl rfl (fun x => ⟨rfl, rfl⟩) (by decide +kernel) rfl (by decide +kernel) ?_
  refine gv_aload_n (ft_d o_FT_init 7 rfl) rfl rfl ?_
  refine gv_new (ft_d o_FT_init 8 rfl) rfl (by decide +kernel) ck_6 cl_FT_9 in_6 iz_6 rfl nd_6 (Nat.le_of_ble_eq_true rfl) (Nat.le_of_ble_eq_true rfl) ?_
  refine gv_dup (ft_d o_FT_init 9 rfl) rfl rfl ?_
  refine gv_callN (K' := kI_St_init) (b := 12) (As := []) (ft_d o_FT_init 10 rfl) rfl mi_FT_11 li_St_init lw_St_init rfl rfl ⟨(Nat.le_of_ble_eq_true rfl), (Nat.le_of_ble_eq_true rfl)⟩ rfl rfl (Nat.le_of_ble_eq_true rfl) (Nat.le_of_ble_eq_true rfl) (Nat.le_of_ble_eq_true rfl) (gc_St_init (a := 12) gsSt_12) ?_
  intro n1 h1 z1 w
  obtain ⟨w1, w2, w3⟩ := w
  rw [w1, w2, w3]
  refine ⟨Nat.le_of_ble_eq_true rfl, ?_⟩
  refine gv_putR (ft_d o_FT_init 11 rfl) rfl fl_FT_16 rfl rfl (fun x => ⟨rfl, rfl⟩) (by decide +kernel) rfl (by decide +kernel) ?_
  refine gv_aload_n (ft_d o_FT_init 12 rfl) rfl rfl ?_
  refine gv_new (ft_d o_FT_init 13 rfl) rfl (by decide +kernel) ck_3 cl_FT_19 in_3 iz_3 rfl nd_3 (Nat.le_of_ble_eq_true rfl) (Nat.le_of_ble_eq_true rfl) ?_
  refine gv_dup (ft_d o_FT_init 14 rfl) rfl rfl ?_
  refine gv_call (K' := kI_Hi_init) (b := 23) (As := []) (ft_d o_FT_init 15 rfl) rfl mi_FT_21 li_Hi_init lw_Hi_init rfl rfl ⟨(Nat.le_of_ble_eq_true rfl), (Nat.le_of_ble_eq_true rfl)⟩ rfl rfl (Nat.le_of_ble_eq_true rfl) (Nat.le_of_ble_eq_true rfl) (Nat.le_of_ble_eq_true rfl) gc_Hi_init ?_
  intro n1 h1 z1 w
  obtain ⟨w1, w2, w3⟩ := w
  rw [w1, w2, w3]
  refine ⟨Nat.le_of_ble_eq_true rfl, ?_⟩
  refine gv_putR (ft_d o_FT_init 16 rfl) rfl fl_FT_22 rfl rfl (fun x => ⟨rfl, rfl⟩) (by decide +kernel) rfl (by decide +kernel) ?_
  refine gv_aload_n (ft_d o_FT_init 17 rfl) rfl rfl ?_
  refine gv_new (ft_d o_FT_init 18 rfl) rfl (by decide +kernel) ck_8 cl_FT_26 in_8 iz_8 rfl nd_8 (Nat.le_of_ble_eq_true rfl) (Nat.le_of_ble_eq_true rfl) ?_
  refine gv_dup (ft_d o_FT_init 19 rfl) rfl rfl ?_
  refine gv_callN (K' := kI_Ta_init) (b := 113) (As := []) (ft_d o_FT_init 20 rfl) rfl mi_FT_28 li_Ta_init lw_Ta_init rfl rfl ⟨(Nat.le_of_ble_eq_true rfl), (Nat.le_of_ble_eq_true rfl)⟩ rfl rfl (Nat.le_of_ble_eq_true rfl) (Nat.le_of_ble_eq_true rfl) (Nat.le_of_ble_eq_true rfl) gc_Ta_init ?_
  intro n1 h1 z1 w
  obtain ⟨w1, w2, w3⟩ := w
  rw [w1, w2, w3]
  refine ⟨Nat.le_of_ble_eq_true rfl, ?_⟩
  refine gv_putR (ft_d o_FT_init 21 rfl) rfl fl_FT_29 rfl rfl (fun x => ⟨rfl, rfl⟩) (by decide +kernel) rfl (by decide +kernel) ?_
  refine gv_aload_n (ft_d o_FT_init 22 rfl) rfl rfl ?_
  refine gv_bipush (ft_d o_FT_init 23 rfl) rfl rfl ?_
  refine gv_putI (ft_d o_FT_init 24 rfl) rfl fl_FT_33 rfl rfl (by decide +kernel) rfl ?_
  refine gv_aload_n (ft_d o_FT_init 25 rfl) rfl rfl ?_
  refine gv_iconst (ft_d o_FT_init 26 rfl) rfl rfl ?_
  refine gv_putI (ft_d o_FT_init 27 rfl) rfl fl_FT_37 rfl rfl (by decide +kernel) rfl ?_
  refine gv_aload_n (ft_d o_FT_init 28 rfl) rfl rfl ?_
  refine gv_new (ft_d o_FT_init 29 rfl) rfl (by decide +kernel) ck_2 cl_FT_40 in_2 iz_2 rfl nd_2 (Nat.le_of_ble_eq_true rfl) (Nat.le_of_ble_eq_true rfl) ?_
  refine gv_dup (ft_d o_FT_init 30 rfl) rfl rfl ?_
  refine gv_bipush (ft_d o_FT_init 31 rfl) rfl rfl ?_
  refine gv_call (K' := kI_Cv_init 60) (b := 115) (As := [.inl (60)]) (ft_d o_FT_init 32 rfl) rfl mi_FT_42 li_Cv_init (lw_Cv_init 60) rfl rfl ⟨(Nat.le_of_ble_eq_true rfl), (Nat.le_of_ble_eq_true rfl)⟩ rfl rfl (Nat.le_of_ble_eq_true rfl) (Nat.le_of_ble_eq_true rfl) (Nat.le_of_ble_eq_true rfl) (gc_Cv_init (a := 115) (N := 60) (by decide +kernel) (Nat.le_of_ble_eq_true rfl) (by decide +kernel) (by decide +kernel)) ?_
  intro n1 h1 z1 w
  obtain ⟨w1, w2, w3⟩ := w
  rw [w1, w2, w3]
  refine ⟨Nat.le_of_ble_eq_true rfl, ?_⟩
  refine gv_putR (ft_d o_FT_init 33 rfl) rfl fl_FT_45 rfl rfl (fun x => ⟨rfl, rfl⟩) (by decide +kernel) rfl (by decide +kernel) ?_
  refine gv_aload_n (ft_d o_FT_init 34 rfl) rfl rfl ?_
  refine gv_new (ft_d o_FT_init 35 rfl) rfl (by decide +kernel) ck_1 cl_FT_49 in_1 iz_1 rfl nd_1 (Nat.le_of_ble_eq_true rfl) (Nat.le_of_ble_eq_true rfl) ?_
  refine gv_dup (ft_d o_FT_init 36 rfl) rfl rfl ?_
  refine gv_callN (K' := kI_Co_init) (b := 122) (As := []) (ft_d o_FT_init 37 rfl) rfl mi_FT_51 li_Co_init lw_Co_init rfl rfl ⟨(Nat.le_of_ble_eq_true rfl), (Nat.le_of_ble_eq_true rfl)⟩ rfl rfl (Nat.le_of_ble_eq_true rfl) (Nat.le_of_ble_eq_true rfl) (Nat.le_of_ble_eq_true rfl) gc_Co_init ?_
  intro n1 h1 z1 w
  obtain ⟨w1, w2, w3⟩ := w
  rw [w1, w2, w3]
  refine ⟨Nat.le_of_ble_eq_true rfl, ?_⟩
  refine gv_putR (ft_d o_FT_init 38 rfl) rfl fl_FT_52 rfl rfl (fun x => ⟨rfl, rfl⟩) (by decide +kernel) rfl (by decide +kernel) ?_
  refine gv_aload_n (ft_d o_FT_init 39 rfl) rfl rfl ?_
  refine gv_new (ft_d o_FT_init 40 rfl) rfl (by decide +kernel) ck_4 cl_FT_56 in_4 iz_4 rfl nd_4 (Nat.le_of_ble_eq_true rfl) (Nat.le_of_ble_eq_true rfl) ?_
  refine gv_dup (ft_d o_FT_init 41 rfl) rfl rfl ?_
  refine gv_bipush (ft_d o_FT_init 42 rfl) rfl rfl ?_
  refine gv_call (K' := kI_PS_init 60) (b := 133) (As := [.inl (60)]) (ft_d o_FT_init 43 rfl) rfl mi_FT_58 li_PS_init (lw_PS_init 60) rfl rfl ⟨(Nat.le_of_ble_eq_true rfl), (Nat.le_of_ble_eq_true rfl)⟩ rfl rfl (Nat.le_of_ble_eq_true rfl) (Nat.le_of_ble_eq_true rfl) (Nat.le_of_ble_eq_true rfl) (gc_PS_init (a := 133) (N := 60) (by decide +kernel) (Nat.le_of_ble_eq_true rfl)) ?_
  intro n1 h1 z1 w
  obtain ⟨w1, w2, w3⟩ := w
  rw [w1, w2, w3]
  refine ⟨Nat.le_of_ble_eq_true rfl, ?_⟩
  refine gv_putR (ft_d o_FT_init 44 rfl) rfl fl_FT_59 rfl rfl (fun x => ⟨rfl, rfl⟩) (by decide +kernel) rfl (by decide +kernel) ?_
  refine gv_aload_n (ft_d o_FT_init 45 rfl) rfl rfl ?_
  refine gv_new (ft_d o_FT_init 46 rfl) rfl (by decide +kernel) ck_2 cl_FT_40 in_2 iz_2 rfl nd_2 (Nat.le_of_ble_eq_true rfl) (Nat.le_of_ble_eq_true rfl) ?_
  refine gv_dup (ft_d o_FT_init 47 rfl) rfl rfl ?_
  refine gv_bipush (ft_d o_FT_init 48 rfl) rfl rfl ?_
  refine gv_call (K' := kI_Cv_init 60) (b := 136) (As := [.inl (60)]) (ft_d o_FT_init 49 rfl) rfl mi_FT_42 li_Cv_init (lw_Cv_init 60) rfl rfl ⟨(Nat.le_of_ble_eq_true rfl), (Nat.le_of_ble_eq_true rfl)⟩ rfl rfl (Nat.le_of_ble_eq_true rfl) (Nat.le_of_ble_eq_true rfl) (Nat.le_of_ble_eq_true rfl) (gc_Cv_init (a := 136) (N := 60) (by decide +kernel) (Nat.le_of_ble_eq_true rfl) (by decide +kernel) (by decide +kernel)) ?_
  intro n1 h1 z1 w
  obtain ⟨w1, w2, w3⟩ := w
  rw [w1, w2, w3]
  refine ⟨Nat.le_of_ble_eq_true rfl, ?_⟩
  refine gv_putR (ft_d o_FT_init 50 rfl) rfl fl_FT_63 rfl rfl (fun x => ⟨rfl, rfl⟩) (by decide +kernel) rfl (by decide +kernel) ?_
  refine gv_aload_n (ft_d o_FT_init 51 rfl) rfl rfl ?_
  refine gv_new (ft_d o_FT_init 52 rfl) rfl (by decide +kernel) ck_0 cl_FT_66 in_0 iz_0 rfl nd_0 (Nat.le_of_ble_eq_true rfl) (Nat.le_of_ble_eq_true rfl) ?_
  refine gv_dup (ft_d o_FT_init 53 rfl) rfl rfl ?_
  refine gv_callN (K' := kI_Ch_init) (b := 143) (As := []) (ft_d o_FT_init 54 rfl) rfl mi_FT_68 li_Ch_init lw_Ch_init rfl rfl ⟨(Nat.le_of_ble_eq_true rfl), (Nat.le_of_ble_eq_true rfl)⟩ rfl rfl (Nat.le_of_ble_eq_true rfl) (Nat.le_of_ble_eq_true rfl) (Nat.le_of_ble_eq_true rfl) hCh ?_
  intro n1 h1 z1 w
  obtain ⟨w1, w2, w3⟩ := w
  rw [w1, w2, w3]
  refine ⟨Nat.le_of_ble_eq_true rfl, ?_⟩
  refine gv_putR (ft_d o_FT_init 55 rfl) rfl fl_FT_69 rfl rfl (fun x => ⟨rfl, rfl⟩) (by decide +kernel) rfl (by decide +kernel) ?_
  refine gv_aload_n (ft_d o_FT_init 56 rfl) rfl rfl ?_
  refine gv_new (ft_d o_FT_init 57 rfl) rfl (by decide +kernel) ck_7 cl_FT_73 in_7 iz_7 rfl nd_7 (Nat.le_of_ble_eq_true rfl) (Nat.le_of_ble_eq_true rfl) ?_
  refine gv_dup (ft_d o_FT_init 58 rfl) rfl rfl ?_
  refine gv_callN (K' := kI_SP_init) (b := 289) (As := []) (ft_d o_FT_init 59 rfl) rfl mi_FT_75 li_SP_init lw_SP_init rfl rfl ⟨(Nat.le_of_ble_eq_true rfl), (Nat.le_of_ble_eq_true rfl)⟩ rfl rfl (Nat.le_of_ble_eq_true rfl) (Nat.le_of_ble_eq_true rfl) (Nat.le_of_ble_eq_true rfl) gc_SP_init ?_
  intro n1 h1 z1 w
  obtain ⟨w1, w2, w3⟩ := w
  rw [w1, w2, w3]
  refine ⟨Nat.le_of_ble_eq_true rfl, ?_⟩
  refine gv_putR (ft_d o_FT_init 60 rfl) rfl fl_FT_76 rfl rfl (fun x => ⟨rfl, rfl⟩) (by decide +kernel) rfl (by decide +kernel) ?_
  refine gv_aload_n (ft_d o_FT_init 61 rfl) rfl rfl ?_
  refine gv_new (ft_d o_FT_init 62 rfl) rfl (by decide +kernel) ck_5 cl_FT_80 in_5 iz_5 rfl nd_5 (Nat.le_of_ble_eq_true rfl) (Nat.le_of_ble_eq_true rfl) ?_
  refine gv_dup (ft_d o_FT_init 63 rfl) rfl rfl ?_
  refine gv_callN (K' := kI_Re_init) (b := 294) (As := []) (ft_d o_FT_init 64 rfl) rfl mi_FT_82 li_Re_init lw_Re_init rfl rfl ⟨(Nat.le_of_ble_eq_true rfl), (Nat.le_of_ble_eq_true rfl)⟩ rfl rfl (Nat.le_of_ble_eq_true rfl) (Nat.le_of_ble_eq_true rfl) (Nat.le_of_ble_eq_true rfl) gc_Re_init ?_
  intro n1 h1 z1 w
  obtain ⟨w1, w2, w3⟩ := w
  rw [w1, w2, w3]
  refine ⟨Nat.le_of_ble_eq_true rfl, ?_⟩
  refine gv_putR (ft_d o_FT_init 65 rfl) rfl fl_FT_83 rfl rfl (fun x => ⟨rfl, rfl⟩) (by decide +kernel) rfl (by decide +kernel) ?_
  refine gv_aload_n (ft_d o_FT_init 66 rfl) rfl rfl ?_
  refine gv_new (ft_d o_FT_init 67 rfl) rfl (by decide +kernel) ck_4 cl_FT_56 in_4 iz_4 rfl nd_4 (Nat.le_of_ble_eq_true rfl) (Nat.le_of_ble_eq_true rfl) ?_
  refine gv_dup (ft_d o_FT_init 68 rfl) rfl rfl ?_
  refine gv_bipush (ft_d o_FT_init 69 rfl) rfl rfl ?_
  refine gv_call (K' := kI_PS_init 60) (b := 296) (As := [.inl (60)]) (ft_d o_FT_init 70 rfl) rfl mi_FT_58 li_PS_init (lw_PS_init 60) rfl rfl ⟨(Nat.le_of_ble_eq_true rfl), (Nat.le_of_ble_eq_true rfl)⟩ rfl rfl (Nat.le_of_ble_eq_true rfl) (Nat.le_of_ble_eq_true rfl) (Nat.le_of_ble_eq_true rfl) (gc_PS_init (a := 296) (N := 60) (by decide +kernel) (Nat.le_of_ble_eq_true rfl)) ?_
  intro n1 h1 z1 w
  obtain ⟨w1, w2, w3⟩ := w
  rw [w1, w2, w3]
  refine ⟨Nat.le_of_ble_eq_true rfl, ?_⟩
  refine gv_putR (ft_d o_FT_init 71 rfl) rfl fl_FT_87 rfl rfl (fun x => ⟨rfl, rfl⟩) (by decide +kernel) rfl (by decide +kernel) ?_
  refine gv_aload_n (ft_d o_FT_init 72 rfl) rfl rfl ?_
  refine gv_new (ft_d o_FT_init 73 rfl) rfl (by decide +kernel) ck_4 cl_FT_56 in_4 iz_4 rfl nd_4 (Nat.le_of_ble_eq_true rfl) (Nat.le_of_ble_eq_true rfl) ?_
  refine gv_dup (ft_d o_FT_init 74 rfl) rfl rfl ?_
  refine gv_bipush (ft_d o_FT_init 75 rfl) rfl rfl ?_
  refine gv_call (K' := kI_PS_init 80) (b := 299) (As := [.inl (80)]) (ft_d o_FT_init 76 rfl) rfl mi_FT_58 li_PS_init (lw_PS_init 80) rfl rfl ⟨(Nat.le_of_ble_eq_true rfl), (Nat.le_of_ble_eq_true rfl)⟩ rfl rfl (Nat.le_of_ble_eq_true rfl) (Nat.le_of_ble_eq_true rfl) (Nat.le_of_ble_eq_true rfl) (gc_PS_init (a := 299) (N := 80) (by decide +kernel) (Nat.le_of_ble_eq_true rfl)) ?_
  intro n1 h1 z1 w
  obtain ⟨w1, w2, w3⟩ := w
  rw [w1, w2, w3]
  refine ⟨Nat.le_of_ble_eq_true rfl, ?_⟩
  refine gv_putR (ft_d o_FT_init 77 rfl) rfl fl_FT_90 rfl rfl (fun x => ⟨rfl, rfl⟩) (by decide +kernel) rfl (by decide +kernel) ?_
  refine gv_aload_n (ft_d o_FT_init 78 rfl) rfl rfl ?_
  refine gv_new (ft_d o_FT_init 79 rfl) rfl (by decide +kernel) ck_2 cl_FT_40 in_2 iz_2 rfl nd_2 (Nat.le_of_ble_eq_true rfl) (Nat.le_of_ble_eq_true rfl) ?_
  refine gv_dup (ft_d o_FT_init 80 rfl) rfl rfl ?_
  refine gv_bipush (ft_d o_FT_init 81 rfl) rfl rfl ?_
  refine gv_call (K' := kI_Cv_init 80) (b := 302) (As := [.inl (80)]) (ft_d o_FT_init 82 rfl) rfl mi_FT_42 li_Cv_init (lw_Cv_init 80) rfl rfl ⟨(Nat.le_of_ble_eq_true rfl), (Nat.le_of_ble_eq_true rfl)⟩ rfl rfl (Nat.le_of_ble_eq_true rfl) (Nat.le_of_ble_eq_true rfl) (Nat.le_of_ble_eq_true rfl) (gc_Cv_init (a := 302) (N := 80) (by decide +kernel) (Nat.le_of_ble_eq_true rfl) (by decide +kernel) (by decide +kernel)) ?_
  intro n1 h1 z1 w
  obtain ⟨w1, w2, w3⟩ := w
  rw [w1, w2, w3]
  refine ⟨Nat.le_of_ble_eq_true rfl, ?_⟩
  refine gv_putR (ft_d o_FT_init 83 rfl) rfl fl_FT_93 rfl rfl (fun x => ⟨rfl, rfl⟩) (by decide +kernel) rfl (by decide +kernel) ?_
  exact gv_return (ft_d o_FT_init 84 rfl) rfl rfl ⟨rfl, rfl, rfl⟩
def z_Mo_init (z : gZ) : gZ := (309, 44) :: (309, 35) :: (309, 33) :: (309, 31) :: (309, 25) :: (309, 24) :: (309, 23) :: (309, 19) :: (309, 18) :: (309, 17) :: (309, 16) :: (309, 15) :: (309, 13) :: (309, 12) :: (309, 11) :: (309, 9) :: (309, 8) :: (309, 7) :: (309, 6) :: (309, 5) :: (309, 3) :: (309, 2) :: (309, 1) :: z
def h_Mo_init (h : ftH) : ftH := ft_hs (ft_hs (ft_hs (ft_hs (ft_hs (ft_hs (ft_hs (ft_hs (ft_hs (ft_hs (ft_hs (ft_hs (ft_hs (ft_hs (ft_hs (ft_hs (ft_hs (ft_hs (ft_hs (ft_hs (ft_hs (ft_hs (ft_hs (ft_hs (ft_hs (ft_hs (ft_hs (ft_hs (ft_hs (ft_hs (ft_hs (ft_hs (h) 331 0 (99)) 331 1 (97)) 331 2 (112)) 331 3 (97)) 331 4 (99)) 331 5 (105)) 331 6 (116)) 331 7 (121)) 331 8 (0)) 331 9 (114)) 331 10 (111)) 331 11 (117)) 331 12 (116)) 331 13 (101)) 331 14 (0)) 331 15 (104)) 331 16 (111)) 331 17 (112)) 331 18 (0)) 331 19 (115)) 331 20 (101)) 331 21 (101)) 331 22 (110)) 331 23 (0)) 331 24 (116)) 331 25 (105)) 331 26 (109)) 331 27 (101)) 331 28 (115)) 331 29 (0)) 309 42 (-2)) 310 3 (8)
set_option maxRecDepth 20000 in
theorem gc_Mo_init {h : ftH} {z : gZ} : gC kI_Mo_init [.inr (.inr 309)] (309 + 1) h z (fun n1 h1 z1 => n1 = 333 ∧ h1 = h_Mo_init h ∧ z1 = z_Mo_init z) := by
  refine g_enter (j := 0) (L := [some (.inr (.inr 309))]) rfl rfl rfl (Nat.le_of_ble_eq_true rfl) rfl ?_
  refine gv_aload_n (ft_d o_Mo_init 0 rfl) rfl rfl ?_
  refine gv_objInit (ft_d o_Mo_init 1 rfl) rfl lo_Mo_init oi_i oi_c (Nat.le_of_ble_eq_true rfl) (Or.inr ⟨rfl, (Nat.le_of_ble_eq_true rfl)⟩) (Nat.le_of_ble_eq_true rfl) ?_
  refine gv_aload_n (ft_d o_Mo_init 2 rfl) rfl rfl ?_
  refine gv_sipush (ft_d o_Mo_init 3 rfl) rfl rfl ?_
  refine gv_newI (ft_d o_Mo_init 4 rfl) rfl (by decide +kernel) rfl (Nat.le_of_ble_eq_true rfl) (Nat.le_of_ble_eq_true rfl) (Nat.le_of_ble_eq_true rfl) ?_
  refine gv_putR (ft_d o_Mo_init 5 rfl) rfl fl_Mo_13 rfl rfl (fun x => ⟨rfl, rfl⟩) (by decide +kernel) rfl (by decide +kernel) ?_
  refine gv_aload_n (ft_d o_Mo_init 6 rfl) rfl rfl ?_
  refine gv_sipush (ft_d o_Mo_init 7 rfl) rfl rfl ?_
  refine gv_newI (ft_d o_Mo_init 8 rfl) rfl (by decide +kernel) rfl (Nat.le_of_ble_eq_true rfl) (Nat.le_of_ble_eq_true rfl) (Nat.le_of_ble_eq_true rfl) ?_
  refine gv_putR (ft_d o_Mo_init 9 rfl) rfl fl_Mo_17 rfl rfl (fun x => ⟨rfl, rfl⟩) (by decide +kernel) rfl (by decide +kernel) ?_
  refine gv_aload_n (ft_d o_Mo_init 10 rfl) rfl rfl ?_
  refine gv_sipush (ft_d o_Mo_init 11 rfl) rfl rfl ?_
  refine gv_newI (ft_d o_Mo_init 12 rfl) rfl (by decide +kernel) rfl (Nat.le_of_ble_eq_true rfl) (Nat.le_of_ble_eq_true rfl) (Nat.le_of_ble_eq_true rfl) ?_
  refine gv_putR (ft_d o_Mo_init 13 rfl) rfl fl_Mo_20 rfl rfl (fun x => ⟨rfl, rfl⟩) (by decide +kernel) rfl (by decide +kernel) ?_
  refine gv_aload_n (ft_d o_Mo_init 14 rfl) rfl rfl ?_
  refine gv_sipush (ft_d o_Mo_init 15 rfl) rfl rfl ?_
  refine gv_newI (ft_d o_Mo_init 16 rfl) rfl (by decide +kernel) rfl (Nat.le_of_ble_eq_true rfl) (Nat.le_of_ble_eq_true rfl) (Nat.le_of_ble_eq_true rfl) ?_
  refine gv_putR (ft_d o_Mo_init 17 rfl) rfl fl_Mo_23 rfl rfl (fun x => ⟨rfl, rfl⟩) (by decide +kernel) rfl (by decide +kernel) ?_
  refine gv_aload_n (ft_d o_Mo_init 18 rfl) rfl rfl ?_
  refine gv_sipush (ft_d o_Mo_init 19 rfl) rfl rfl ?_
  refine gv_newI (ft_d o_Mo_init 20 rfl) rfl (by decide +kernel) rfl (Nat.le_of_ble_eq_true rfl) (Nat.le_of_ble_eq_true rfl) (Nat.le_of_ble_eq_true rfl) ?_
  refine gv_putR (ft_d o_Mo_init 21 rfl) rfl fl_Mo_26 rfl rfl (fun x => ⟨rfl, rfl⟩) (by decide +kernel) rfl (by decide +kernel) ?_
  refine gv_aload_n (ft_d o_Mo_init 22 rfl) rfl rfl ?_
  refine gv_sipush (ft_d o_Mo_init 23 rfl) rfl rfl ?_
  refine gv_newI (ft_d o_Mo_init 24 rfl) rfl (by decide +kernel) rfl (Nat.le_of_ble_eq_true rfl) (Nat.le_of_ble_eq_true rfl) (Nat.le_of_ble_eq_true rfl) ?_
  refine gv_putR (ft_d o_Mo_init 25 rfl) rfl fl_Mo_29 rfl rfl (fun x => ⟨rfl, rfl⟩) (by decide +kernel) rfl (by decide +kernel) ?_
  refine gv_aload_n (ft_d o_Mo_init 26 rfl) rfl rfl ?_
  refine gv_sipush (ft_d o_Mo_init 27 rfl) rfl rfl ?_
  refine gv_newI (ft_d o_Mo_init 28 rfl) rfl (by decide +kernel) rfl (Nat.le_of_ble_eq_true rfl) (Nat.le_of_ble_eq_true rfl) (Nat.le_of_ble_eq_true rfl) ?_
  refine gv_putR (ft_d o_Mo_init 29 rfl) rfl fl_Mo_32 rfl rfl (fun x => ⟨rfl, rfl⟩) (by decide +kernel) rfl (by decide +kernel) ?_
  refine gv_aload_n (ft_d o_Mo_init 30 rfl) rfl rfl ?_
  refine gv_sipush (ft_d o_Mo_init 31 rfl) rfl rfl ?_
  refine gv_newI (ft_d o_Mo_init 32 rfl) rfl (by decide +kernel) rfl (Nat.le_of_ble_eq_true rfl) (Nat.le_of_ble_eq_true rfl) (Nat.le_of_ble_eq_true rfl) ?_
  refine gv_putR (ft_d o_Mo_init 33 rfl) rfl fl_Mo_35 rfl rfl (fun x => ⟨rfl, rfl⟩) (by decide +kernel) rfl (by decide +kernel) ?_
  refine gv_aload_n (ft_d o_Mo_init 34 rfl) rfl rfl ?_
  refine gv_bipush (ft_d o_Mo_init 35 rfl) rfl rfl ?_
  refine gv_newI (ft_d o_Mo_init 36 rfl) rfl (by decide +kernel) rfl (Nat.le_of_ble_eq_true rfl) (Nat.le_of_ble_eq_true rfl) (Nat.le_of_ble_eq_true rfl) ?_
  refine gv_putR (ft_d o_Mo_init 37 rfl) rfl fl_Mo_38 rfl rfl (fun x => ⟨rfl, rfl⟩) (by decide +kernel) rfl (by decide +kernel) ?_
  refine gv_aload_n (ft_d o_Mo_init 38 rfl) rfl rfl ?_
  refine gv_bipush (ft_d o_Mo_init 39 rfl) rfl rfl ?_
  refine gv_newI (ft_d o_Mo_init 40 rfl) rfl (by decide +kernel) rfl (Nat.le_of_ble_eq_true rfl) (Nat.le_of_ble_eq_true rfl) (Nat.le_of_ble_eq_true rfl) ?_
  refine gv_putR (ft_d o_Mo_init 41 rfl) rfl fl_Mo_41 rfl rfl (fun x => ⟨rfl, rfl⟩) (by decide +kernel) rfl (by decide +kernel) ?_
  refine gv_aload_n (ft_d o_Mo_init 42 rfl) rfl rfl ?_
  refine gv_bipush (ft_d o_Mo_init 43 rfl) rfl rfl ?_
  refine gv_newI (ft_d o_Mo_init 44 rfl) rfl (by decide +kernel) rfl (Nat.le_of_ble_eq_true rfl) (Nat.le_of_ble_eq_true rfl) (Nat.le_of_ble_eq_true rfl) ?_
  refine gv_putR (ft_d o_Mo_init 45 rfl) rfl fl_Mo_44 rfl rfl (fun x => ⟨rfl, rfl⟩) (by decide +kernel) rfl (by decide +kernel) ?_
  refine gv_aload_n (ft_d o_Mo_init 46 rfl) rfl rfl ?_
  refine gv_bipush (ft_d o_Mo_init 47 rfl) rfl rfl ?_
  refine gv_newI (ft_d o_Mo_init 48 rfl) rfl (by decide +kernel) rfl (Nat.le_of_ble_eq_true rfl) (Nat.le_of_ble_eq_true rfl) (Nat.le_of_ble_eq_true rfl) ?_
  refine gv_putR (ft_d o_Mo_init 49 rfl) rfl fl_Mo_47 rfl rfl (fun x => ⟨rfl, rfl⟩) (by decide +kernel) rfl (by decide +kernel) ?_
  refine gv_aload_n (ft_d o_Mo_init 50 rfl) rfl rfl ?_
  refine gv_bipush (ft_d o_Mo_init 51 rfl) rfl rfl ?_
  refine gv_newI (ft_d o_Mo_init 52 rfl) rfl (by decide +kernel) rfl (Nat.le_of_ble_eq_true rfl) (Nat.le_of_ble_eq_true rfl) (Nat.le_of_ble_eq_true rfl) ?_
  refine gv_putR (ft_d o_Mo_init 53 rfl) rfl fl_Mo_50 rfl rfl (fun x => ⟨rfl, rfl⟩) (by decide +kernel) rfl (by decide +kernel) ?_
  refine gv_aload_n (ft_d o_Mo_init 54 rfl) rfl rfl ?_
  refine gv_sipush (ft_d o_Mo_init 55 rfl) rfl rfl ?_
  refine gv_newI (ft_d o_Mo_init 56 rfl) rfl (by decide +kernel) rfl (Nat.le_of_ble_eq_true rfl) (Nat.le_of_ble_eq_true rfl) (Nat.le_of_ble_eq_true rfl) ?_
  refine gv_putR (ft_d o_Mo_init 57 rfl) rfl fl_Mo_53 rfl rfl (fun x => ⟨rfl, rfl⟩) (by decide +kernel) rfl (by decide +kernel) ?_
  refine gv_aload_n (ft_d o_Mo_init 58 rfl) rfl rfl ?_
  refine gv_bipush (ft_d o_Mo_init 59 rfl) rfl rfl ?_
  refine gv_newI (ft_d o_Mo_init 60 rfl) rfl (by decide +kernel) rfl (Nat.le_of_ble_eq_true rfl) (Nat.le_of_ble_eq_true rfl) (Nat.le_of_ble_eq_true rfl) ?_
  refine gv_putR (ft_d o_Mo_init 61 rfl) rfl fl_Mo_56 rfl rfl (fun x => ⟨rfl, rfl⟩) (by decide +kernel) rfl (by decide +kernel) ?_
  refine gv_aload_n (ft_d o_Mo_init 62 rfl) rfl rfl ?_
  refine gv_bipush (ft_d o_Mo_init 63 rfl) rfl rfl ?_
  refine gv_newI (ft_d o_Mo_init 64 rfl) rfl (by decide +kernel) rfl (Nat.le_of_ble_eq_true rfl) (Nat.le_of_ble_eq_true rfl) (Nat.le_of_ble_eq_true rfl) ?_
  refine gv_putR (ft_d o_Mo_init 65 rfl) rfl fl_Mo_59 rfl rfl (fun x => ⟨rfl, rfl⟩) (by decide +kernel) rfl (by decide +kernel) ?_
  refine gv_aload_n (ft_d o_Mo_init 66 rfl) rfl rfl ?_
  refine gv_bipush (ft_d o_Mo_init 67 rfl) rfl rfl ?_
  refine gv_newI (ft_d o_Mo_init 68 rfl) rfl (by decide +kernel) rfl (Nat.le_of_ble_eq_true rfl) (Nat.le_of_ble_eq_true rfl) (Nat.le_of_ble_eq_true rfl) ?_
  refine gv_putR (ft_d o_Mo_init 69 rfl) rfl fl_Mo_62 rfl rfl (fun x => ⟨rfl, rfl⟩) (by decide +kernel) rfl (by decide +kernel) ?_
  refine gv_aload_n (ft_d o_Mo_init 70 rfl) rfl rfl ?_
  refine gv_bipush (ft_d o_Mo_init 71 rfl) rfl rfl ?_
  refine gv_newI (ft_d o_Mo_init 72 rfl) rfl (by decide +kernel) rfl (Nat.le_of_ble_eq_true rfl) (Nat.le_of_ble_eq_true rfl) (Nat.le_of_ble_eq_true rfl) ?_
  refine gv_putR (ft_d o_Mo_init 73 rfl) rfl fl_Mo_65 rfl rfl (fun x => ⟨rfl, rfl⟩) (by decide +kernel) rfl (by decide +kernel) ?_
  refine gv_aload_n (ft_d o_Mo_init 74 rfl) rfl rfl ?_
  refine gv_bipush (ft_d o_Mo_init 75 rfl) rfl rfl ?_
  refine gv_newI (ft_d o_Mo_init 76 rfl) rfl (by decide +kernel) rfl (Nat.le_of_ble_eq_true rfl) (Nat.le_of_ble_eq_true rfl) (Nat.le_of_ble_eq_true rfl) ?_
  refine gv_putR (ft_d o_Mo_init 77 rfl) rfl fl_Mo_68 rfl rfl (fun x => ⟨rfl, rfl⟩) (by decide +kernel) rfl (by decide +kernel) ?_
  refine gv_aload_n (ft_d o_Mo_init 78 rfl) rfl rfl ?_
  refine gv_sipush (ft_d o_Mo_init 79 rfl) rfl rfl ?_
  refine gv_newI (ft_d o_Mo_init 80 rfl) rfl (by decide +kernel) rfl (Nat.le_of_ble_eq_true rfl) (Nat.le_of_ble_eq_true rfl) (Nat.le_of_ble_eq_true rfl) ?_
  refine gv_putR (ft_d o_Mo_init 81 rfl) rfl fl_Mo_71 rfl rfl (fun x => ⟨rfl, rfl⟩) (by decide +kernel) rfl (by decide +kernel) ?_
  refine gv_aload_n (ft_d o_Mo_init 82 rfl) rfl rfl ?_
  refine gv_sipush (ft_d o_Mo_init 83 rfl) rfl rfl ?_
  refine gv_newI (ft_d o_Mo_init 84 rfl) rfl (by decide +kernel) rfl (Nat.le_of_ble_eq_true rfl) (Nat.le_of_ble_eq_true rfl) (Nat.le_of_ble_eq_true rfl) ?_
  refine gv_putR (ft_d o_Mo_init 85 rfl) rfl fl_Mo_74 rfl rfl (fun x => ⟨rfl, rfl⟩) (by decide +kernel) rfl (by decide +kernel) ?_
  refine gv_aload_n (ft_d o_Mo_init 86 rfl) rfl rfl ?_
  refine gv_bipush (ft_d o_Mo_init 87 rfl) rfl rfl ?_
  refine gv_newB (ft_d o_Mo_init 88 rfl) rfl (by decide +kernel) rfl (Nat.le_of_ble_eq_true rfl) (Nat.le_of_ble_eq_true rfl) (Nat.le_of_ble_eq_true rfl) ?_
  refine gv_dup (ft_d o_Mo_init 89 rfl) rfl rfl ?_
  refine gv_iconst (ft_d o_Mo_init 90 rfl) rfl rfl ?_
  refine gv_bipush (ft_d o_Mo_init 91 rfl) rfl rfl ?_
  refine gv_bast (N := 30) (ft_d o_Mo_init 92 rfl) rfl (by decide +kernel) (by decide) (by decide +kernel) ?_
  refine gv_dup (ft_d o_Mo_init 93 rfl) rfl rfl ?_
  refine gv_iconst (ft_d o_Mo_init 94 rfl) rfl rfl ?_
  refine gv_bipush (ft_d o_Mo_init 95 rfl) rfl rfl ?_
  refine gv_bast (N := 30) (ft_d o_Mo_init 96 rfl) rfl (by decide +kernel) (by decide) (by decide +kernel) ?_
  refine gv_dup (ft_d o_Mo_init 97 rfl) rfl rfl ?_
  refine gv_iconst (ft_d o_Mo_init 98 rfl) rfl rfl ?_
  refine gv_bipush (ft_d o_Mo_init 99 rfl) rfl rfl ?_
  refine gv_bast (N := 30) (ft_d o_Mo_init 100 rfl) rfl (by decide +kernel) (by decide) (by decide +kernel) ?_
  refine gv_dup (ft_d o_Mo_init 101 rfl) rfl rfl ?_
  refine gv_iconst (ft_d o_Mo_init 102 rfl) rfl rfl ?_
  refine gv_bipush (ft_d o_Mo_init 103 rfl) rfl rfl ?_
  refine gv_bast (N := 30) (ft_d o_Mo_init 104 rfl) rfl (by decide +kernel) (by decide) (by decide +kernel) ?_
  refine gv_dup (ft_d o_Mo_init 105 rfl) rfl rfl ?_
  refine gv_iconst (ft_d o_Mo_init 106 rfl) rfl rfl ?_
  refine gv_bipush (ft_d o_Mo_init 107 rfl) rfl rfl ?_
  refine gv_bast (N := 30) (ft_d o_Mo_init 108 rfl) rfl (by decide +kernel) (by decide) (by decide +kernel) ?_
  refine gv_dup (ft_d o_Mo_init 109 rfl) rfl rfl ?_
  refine gv_iconst (ft_d o_Mo_init 110 rfl) rfl rfl ?_
  refine gv_bipush (ft_d o_Mo_init 111 rfl) rfl rfl ?_
  refine gv_bast (N := 30) (ft_d o_Mo_init 112 rfl) rfl (by decide +kernel) (by decide) (by decide +kernel) ?_
  refine gv_dup (ft_d o_Mo_init 113 rfl) rfl rfl ?_
  refine gv_bipush (ft_d o_Mo_init 114 rfl) rfl rfl ?_
  refine gv_bipush (ft_d o_Mo_init 115 rfl) rfl rfl ?_
  refine gv_bast (N := 30) (ft_d o_Mo_init 116 rfl) rfl (by decide +kernel) (by decide) (by decide +kernel) ?_
  refine gv_dup (ft_d o_Mo_init 117 rfl) rfl rfl ?_
  refine gv_bipush (ft_d o_Mo_init 118 rfl) rfl rfl ?_
  refine gv_bipush (ft_d o_Mo_init 119 rfl) rfl rfl ?_
  refine gv_bast (N := 30) (ft_d o_Mo_init 120 rfl) rfl (by decide +kernel) (by decide) (by decide +kernel) ?_
  refine gv_dup (ft_d o_Mo_init 121 rfl) rfl rfl ?_
  refine gv_bipush (ft_d o_Mo_init 122 rfl) rfl rfl ?_
  refine gv_iconst (ft_d o_Mo_init 123 rfl) rfl rfl ?_
  refine gv_bast (N := 30) (ft_d o_Mo_init 124 rfl) rfl (by decide +kernel) (by decide) (by decide +kernel) ?_
  refine gv_dup (ft_d o_Mo_init 125 rfl) rfl rfl ?_
  refine gv_bipush (ft_d o_Mo_init 126 rfl) rfl rfl ?_
  refine gv_bipush (ft_d o_Mo_init 127 rfl) rfl rfl ?_
  refine gv_bast (N := 30) (ft_d o_Mo_init 128 rfl) rfl (by decide +kernel) (by decide) (by decide +kernel) ?_
  refine gv_dup (ft_d o_Mo_init 129 rfl) rfl rfl ?_
  refine gv_bipush (ft_d o_Mo_init 130 rfl) rfl rfl ?_
  refine gv_bipush (ft_d o_Mo_init 131 rfl) rfl rfl ?_
  refine gv_bast (N := 30) (ft_d o_Mo_init 132 rfl) rfl (by decide +kernel) (by decide) (by decide +kernel) ?_
  refine gv_dup (ft_d o_Mo_init 133 rfl) rfl rfl ?_
  refine gv_bipush (ft_d o_Mo_init 134 rfl) rfl rfl ?_
  refine gv_bipush (ft_d o_Mo_init 135 rfl) rfl rfl ?_
  refine gv_bast (N := 30) (ft_d o_Mo_init 136 rfl) rfl (by decide +kernel) (by decide) (by decide +kernel) ?_
  refine gv_dup (ft_d o_Mo_init 137 rfl) rfl rfl ?_
  refine gv_bipush (ft_d o_Mo_init 138 rfl) rfl rfl ?_
  refine gv_bipush (ft_d o_Mo_init 139 rfl) rfl rfl ?_
  refine gv_bast (N := 30) (ft_d o_Mo_init 140 rfl) rfl (by decide +kernel) (by decide) (by decide +kernel) ?_
  refine gv_dup (ft_d o_Mo_init 141 rfl) rfl rfl ?_
  refine gv_bipush (ft_d o_Mo_init 142 rfl) rfl rfl ?_
  refine gv_bipush (ft_d o_Mo_init 143 rfl) rfl rfl ?_
  refine gv_bast (N := 30) (ft_d o_Mo_init 144 rfl) rfl (by decide +kernel) (by decide) (by decide +kernel) ?_
  refine gv_dup (ft_d o_Mo_init 145 rfl) rfl rfl ?_
  refine gv_bipush (ft_d o_Mo_init 146 rfl) rfl rfl ?_
  refine gv_iconst (ft_d o_Mo_init 147 rfl) rfl rfl ?_
  refine gv_bast (N := 30) (ft_d o_Mo_init 148 rfl) rfl (by decide +kernel) (by decide) (by decide +kernel) ?_
  refine gv_dup (ft_d o_Mo_init 149 rfl) rfl rfl ?_
  refine gv_bipush (ft_d o_Mo_init 150 rfl) rfl rfl ?_
  refine gv_bipush (ft_d o_Mo_init 151 rfl) rfl rfl ?_
  refine gv_bast (N := 30) (ft_d o_Mo_init 152 rfl) rfl (by decide +kernel) (by decide) (by decide +kernel) ?_
  refine gv_dup (ft_d o_Mo_init 153 rfl) rfl rfl ?_
  refine gv_bipush (ft_d o_Mo_init 154 rfl) rfl rfl ?_
  refine gv_bipush (ft_d o_Mo_init 155 rfl) rfl rfl ?_
  refine gv_bast (N := 30) (ft_d o_Mo_init 156 rfl) rfl (by decide +kernel) (by decide) (by decide +kernel) ?_
  refine gv_dup (ft_d o_Mo_init 157 rfl) rfl rfl ?_
  refine gv_bipush (ft_d o_Mo_init 158 rfl) rfl rfl ?_
  refine gv_bipush (ft_d o_Mo_init 159 rfl) rfl rfl ?_
  refine gv_bast (N := 30) (ft_d o_Mo_init 160 rfl) rfl (by decide +kernel) (by decide) (by decide +kernel) ?_
  refine gv_dup (ft_d o_Mo_init 161 rfl) rfl rfl ?_
  refine gv_bipush (ft_d o_Mo_init 162 rfl) rfl rfl ?_
  refine gv_iconst (ft_d o_Mo_init 163 rfl) rfl rfl ?_
  refine gv_bast (N := 30) (ft_d o_Mo_init 164 rfl) rfl (by decide +kernel) (by decide) (by decide +kernel) ?_
  refine gv_dup (ft_d o_Mo_init 165 rfl) rfl rfl ?_
  refine gv_bipush (ft_d o_Mo_init 166 rfl) rfl rfl ?_
  refine gv_bipush (ft_d o_Mo_init 167 rfl) rfl rfl ?_
  refine gv_bast (N := 30) (ft_d o_Mo_init 168 rfl) rfl (by decide +kernel) (by decide) (by decide +kernel) ?_
  refine gv_dup (ft_d o_Mo_init 169 rfl) rfl rfl ?_
  refine gv_bipush (ft_d o_Mo_init 170 rfl) rfl rfl ?_
  refine gv_bipush (ft_d o_Mo_init 171 rfl) rfl rfl ?_
  refine gv_bast (N := 30) (ft_d o_Mo_init 172 rfl) rfl (by decide +kernel) (by decide) (by decide +kernel) ?_
  refine gv_dup (ft_d o_Mo_init 173 rfl) rfl rfl ?_
  refine gv_bipush (ft_d o_Mo_init 174 rfl) rfl rfl ?_
  refine gv_bipush (ft_d o_Mo_init 175 rfl) rfl rfl ?_
  refine gv_bast (N := 30) (ft_d o_Mo_init 176 rfl) rfl (by decide +kernel) (by decide) (by decide +kernel) ?_
  refine gv_dup (ft_d o_Mo_init 177 rfl) rfl rfl ?_
  refine gv_bipush (ft_d o_Mo_init 178 rfl) rfl rfl ?_
  refine gv_bipush (ft_d o_Mo_init 179 rfl) rfl rfl ?_
  refine gv_bast (N := 30) (ft_d o_Mo_init 180 rfl) rfl (by decide +kernel) (by decide) (by decide +kernel) ?_
  refine gv_dup (ft_d o_Mo_init 181 rfl) rfl rfl ?_
  refine gv_bipush (ft_d o_Mo_init 182 rfl) rfl rfl ?_
  refine gv_iconst (ft_d o_Mo_init 183 rfl) rfl rfl ?_
  refine gv_bast (N := 30) (ft_d o_Mo_init 184 rfl) rfl (by decide +kernel) (by decide) (by decide +kernel) ?_
  refine gv_dup (ft_d o_Mo_init 185 rfl) rfl rfl ?_
  refine gv_bipush (ft_d o_Mo_init 186 rfl) rfl rfl ?_
  refine gv_bipush (ft_d o_Mo_init 187 rfl) rfl rfl ?_
  refine gv_bast (N := 30) (ft_d o_Mo_init 188 rfl) rfl (by decide +kernel) (by decide) (by decide +kernel) ?_
  refine gv_dup (ft_d o_Mo_init 189 rfl) rfl rfl ?_
  refine gv_bipush (ft_d o_Mo_init 190 rfl) rfl rfl ?_
  refine gv_bipush (ft_d o_Mo_init 191 rfl) rfl rfl ?_
  refine gv_bast (N := 30) (ft_d o_Mo_init 192 rfl) rfl (by decide +kernel) (by decide) (by decide +kernel) ?_
  refine gv_dup (ft_d o_Mo_init 193 rfl) rfl rfl ?_
  refine gv_bipush (ft_d o_Mo_init 194 rfl) rfl rfl ?_
  refine gv_bipush (ft_d o_Mo_init 195 rfl) rfl rfl ?_
  refine gv_bast (N := 30) (ft_d o_Mo_init 196 rfl) rfl (by decide +kernel) (by decide) (by decide +kernel) ?_
  refine gv_dup (ft_d o_Mo_init 197 rfl) rfl rfl ?_
  refine gv_bipush (ft_d o_Mo_init 198 rfl) rfl rfl ?_
  refine gv_bipush (ft_d o_Mo_init 199 rfl) rfl rfl ?_
  refine gv_bast (N := 30) (ft_d o_Mo_init 200 rfl) rfl (by decide +kernel) (by decide) (by decide +kernel) ?_
  refine gv_dup (ft_d o_Mo_init 201 rfl) rfl rfl ?_
  refine gv_bipush (ft_d o_Mo_init 202 rfl) rfl rfl ?_
  refine gv_bipush (ft_d o_Mo_init 203 rfl) rfl rfl ?_
  refine gv_bast (N := 30) (ft_d o_Mo_init 204 rfl) rfl (by decide +kernel) (by decide) (by decide +kernel) ?_
  refine gv_dup (ft_d o_Mo_init 205 rfl) rfl rfl ?_
  refine gv_bipush (ft_d o_Mo_init 206 rfl) rfl rfl ?_
  refine gv_iconst (ft_d o_Mo_init 207 rfl) rfl rfl ?_
  refine gv_bast (N := 30) (ft_d o_Mo_init 208 rfl) rfl (by decide +kernel) (by decide) (by decide +kernel) ?_
  refine gv_putR (ft_d o_Mo_init 209 rfl) rfl fl_Mo_77 rfl rfl (fun x => ⟨rfl, rfl⟩) (by decide +kernel) rfl (by decide +kernel) ?_
  refine gv_aload_n (ft_d o_Mo_init 210 rfl) rfl rfl ?_
  refine gv_bipush (ft_d o_Mo_init 211 rfl) rfl rfl ?_
  refine gv_putI (ft_d o_Mo_init 212 rfl) rfl fl_Mo_81 rfl rfl (by decide +kernel) rfl ?_
  refine gv_aload_n (ft_d o_Mo_init 213 rfl) rfl rfl ?_
  refine gv_sipush (ft_d o_Mo_init 214 rfl) rfl rfl ?_
  refine gv_newI (ft_d o_Mo_init 215 rfl) rfl (by decide +kernel) rfl (Nat.le_of_ble_eq_true rfl) (Nat.le_of_ble_eq_true rfl) (Nat.le_of_ble_eq_true rfl) ?_
  refine gv_putR (ft_d o_Mo_init 216 rfl) rfl fl_Mo_84 rfl rfl (fun x => ⟨rfl, rfl⟩) (by decide +kernel) rfl (by decide +kernel) ?_
  refine gv_aload_n (ft_d o_Mo_init 217 rfl) rfl rfl ?_
  refine gv_getR (b := 310) (ft_d o_Mo_init 218 rfl) rfl fl_Mo_13 (by decide +kernel) rfl (by decide +kernel) (by simp [z_St_init, z_PS_init, z_TL_init]) ?_
  refine gv_iconst (ft_d o_Mo_init 219 rfl) rfl rfl ?_
  refine gv_bipush (ft_d o_Mo_init 220 rfl) rfl rfl ?_
  refine gv_iast (N := 520) (ft_d o_Mo_init 221 rfl) rfl (by decide +kernel) (by decide) ?_
  exact gv_return (ft_d o_Mo_init 222 rfl) rfl rfl ⟨rfl, rfl, rfl⟩
