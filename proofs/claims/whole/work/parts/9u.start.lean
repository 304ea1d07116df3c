/-! printed by wip/whole/gen/gen9u.py: the law from its entry, over Choice's constructor -/
theorem cl_La_7 : ft_g (.classLink R_law 7 ftC10) := ft_gt 19 (by decide +kernel) rfl
theorem cl_La_10 : ft_g (.classLink R_law 10 ftC11) := ft_gt 1041 (by decide +kernel) rfl
theorem mi_La_9 : ft_g (.methodLink R_law 9 kI_FT_init.1) := ft_gt 21 (by decide +kernel) rfl
theorem mi_La_12 : ft_g (.methodLink R_law 12 kI_Mo_init.1) := ft_gt 1043 (by decide +kernel) rfl
theorem l_start (hCh : ∀ {h : ftH} {z : gZ}, gC kI_Ch_init [.inr (.inr 143)] 144 h z (fun n1 h1 z1 => n1 = 289 ∧ h1 = h ∧ z1 = z_Ch_init z)) {L : Nat} {xs : Nat → Int32} (hL : L ≤ 3072) : lG L xs 0 [] [] 0 (fun _ _ => 0) [] 0 0 := by
  refine lG_new (ft_d o_La_head 0 rfl) rfl sh_0a ck_10 cl_La_7 in_10 iz_10 rfl nd_10 (Nat.le_of_ble_eq_true rfl) (Nat.le_of_ble_eq_true rfl) ?_
  refine lG_dup (ft_d o_La_head 1 rfl) rfl rfl ?_
  refine lG_call (K' := kI_FT_init) (ft_d o_La_head 2 rfl) rfl mi_La_9 li_FT_init lw_FT_init rfl rfl ⟨(Nat.le_of_ble_eq_true rfl), (Nat.le_of_ble_eq_true rfl)⟩ (Nat.le_of_ble_eq_true rfl) (Nat.le_of_ble_eq_true rfl) (Nat.le_of_ble_eq_true rfl) (gc_FT_init hCh) ?_
  intro n1 h1 z1 w
  obtain ⟨w1, w2, w3⟩ := w
  rw [w1, w2, w3]
  refine ⟨Nat.le_of_ble_eq_true rfl, ?_⟩
  refine lG_ast1 (ft_d o_La_head 3 rfl) rfl ?_
  refine lG_new (ft_d o_La_head 4 rfl) rfl sh_309a ck_11 cl_La_10 in_11 iz_11 rfl nd_11 (Nat.le_of_ble_eq_true rfl) (Nat.le_of_ble_eq_true rfl) ?_
  refine lG_dup (ft_d o_La_head 5 rfl) rfl rfl ?_
  refine lG_call (K' := kI_Mo_init) (ft_d o_La_head 6 rfl) rfl mi_La_12 li_Mo_init lw_Mo_init rfl rfl ⟨(Nat.le_of_ble_eq_true rfl), (Nat.le_of_ble_eq_true rfl)⟩ (Nat.le_of_ble_eq_true rfl) (Nat.le_of_ble_eq_true rfl) (Nat.le_of_ble_eq_true rfl) (gc_Mo_init) ?_
  intro n1 h1 z1 w
  obtain ⟨w1, w2, w3⟩ := w
  rw [w1, w2, w3]
  refine ⟨Nat.le_of_ble_eq_true rfl, ?_⟩
  refine lG_ast2 (ft_d o_La_head 7 rfl) rfl ?_
  exact lG_done (z := zI) (h := hI) zI_ok (ft_d o_La_head 8 rfl) (ft_d o_La_head 9 rfl) rfl (Nat.le_of_ble_eq_true rfl) (Nat.le_of_ble_eq_true rfl) (l_loop hL 512 0 (by omega) (by omega) hI G0 (gB_mono (by omega) gB_0) cG_0 mG_0)
theorem wf_0 : ft_wf (fun _ _ => 0) := by
  intro k j
  split
  · exact (show ft_inL 0 from ⟨by decide, by decide⟩)
  · exact (show ft_in 0 from ⟨by decide, by decide⟩)
theorem whole_start0 (hCh : ∀ {h : ftH} {z : gZ}, gC kI_Ch_init [.inr (.inr 143)] 144 h z (fun n1 h1 z1 => n1 = 289 ∧ h1 = h ∧ z1 = z_Ch_init z)) {p : Program} {e : Env} {s : State} {m : MethodId} {below : List Frame} {meth : Method} {c : Code} (l : Launch) {b L : Nat} {xs : Nat → Int32} (hL : L ≤ 3072) (C0 : lw_At p s m meth c b L xs) : W p l e room_1 s m #[Value.ref b] below meth c s.heap [] 0 0 (lw_Z below #[Value.ref b] s) (entryFrame m ([Value.ref b] : List Value).toArray 4) := by
  obtain ⟨D, cA, hK⟩ := s_K C0.2.2.2.2.2.1
  have hl := lv_entry ([.ref b]) (n := 4) (Nat.le_of_ble_eq_true rfl)
  rw [lg_entry_eq]
  generalize (lg_sl ([.ref b]) ++ List.replicate (4 - (lg_sl ([.ref b])).length) Slot.unset).toArray = ls at hl ⊢
  have hl : lv_has ls 4 [(0, .ref b)] := hl
  exact l_start hCh hL p l e s m below meth c b D (fun _ => 0) cA s.heap [] ls C0 hK (fun k q h => by simp [gws] at h) ⟨fun i j p q h => by simp [gws] at h, fun k q h => by simp [gws] at h⟩ va_S.rf ⟨wf_0, fun _ _ _ => rfl, fun q hq => (by cases hq)⟩ (fun q hq => (by cases hq)) (fun v hv => (by cases hv)) hl
