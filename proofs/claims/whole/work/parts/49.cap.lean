/-! the class's capacity and clearing -/
theorem ccI_un {g h' : ftH} {S : ftS} {P : List ftS} (hI : ccI g S P) (hf : ∀ k, k ≠ 0 → k ≠ 294 → h' k = g k) : ccI h' S P :=
  ccI_st hI (fun k k1 k2 => hf k (by omega) k2) (ft_sz_same (fun k k1 k2 => hf k (by omega) (by omega)) hI.1.1) (by rw [ft_sa_same (fun k k1 k2 => hf k (by omega) (by omega))]; exact hI.1.2)
theorem v_FT_empty {h : ftH} {S : ftS} {P : List ftS} (hI : ccI h S P) {B : Int} (hB : B ≤ 1000000000) (hc : S.2.2.2.2.length = 5 ∧ ∀ x ∈ S.2.2.2.2, 0 ≤ x ∧ x ≤ B) : ft_C k_St_emptyHardware [.inr (.inr 1)] h (fun r h' => r = none ∧ (∀ k, k ≠ 5 → k ≠ 11 → h' k = h k) ∧ ccI h' (S.1, S.2.1, [], S.2.2.2.1, ctEmpty (S.2.2.1.length : Int) S.2.2.2.2) P) := by
  obtain ⟨z1, z2, z3⟩ := hI.1.1
  have s := hI.1.2
  rw [ft_sa_1] at s
  have w2 : ft_pl h 5 = S.2.2.1 := congrArg (fun s : ftS => s.2.2.1) s
  have w4 : ft_ct h 11 = S.2.2.2.2 := congrArg (fun s : ftS => s.2.2.2.2) s
  have hlen : (S.2.2.1.length : Int) = h 5 2 := by
    rw [← w2, ft_pl_len]
    have : 0 ≤ h 5 2 := z2.1
    omega
  have b2 := hc.2 (h 11 2) (by rw [← w4]; simp [ft_ct])
  have b4 := hc.2 (h 11 4) (by rw [← w4]; simp [ft_ct])
  refine ft_Cw (c_St_emptyHardware (a := 1) sh_1 z2 ⟨b2.1, by show h 11 2 ≤ 4000000000; omega⟩ ⟨b4.1, by show h 11 4 ≤ 4000000000; omega⟩) (fun r h' hw => ?_)
  obtain ⟨hr, f1, f2, f3⟩ := hw
  have f1' : ∀ k, k ≠ 5 → k ≠ 11 → h' k = h k := f1
  refine ⟨hr, f1', ccI_st hI (fun k k1 k2 => f1' k (by omega) (by omega)) ⟨?_, ?_, ?_⟩ ?_⟩
  · rw [f1' (1 + 1) (by omega) (by omega)]; exact z1
  · rw [f2]; omega
  · rw [f1' (1 + 7) (by omega) (by omega)]; exact z3
  · have q2 : h' 5 2 = 0 := f2
    have q4 : ft_ct h' 11 = ctEmpty (h 5 2) (ft_ct h 11) := f3
    rw [ft_sa_1, f1' 1 (by omega) (by omega), ft_pl_same (h := h) (a := 2) (f1' _ (by omega) (by omega)) (f1' _ (by omega) (by omega)) (f1' _ (by omega) (by omega)), ft_pl_nil q2, ft_pl_same (h := h) (a := 8) (f1' _ (by omega) (by omega)) (f1' _ (by omega) (by omega)) (f1' _ (by omega) (by omega)), q4, hlen, ← w4, ← s]
theorem d_FT_setCapacity {h : ftH} {S : ftS} {P : List ftS} (hI : ccI h S P) {B : Int} (hB : B ≤ 1000000000) (hok : sOk B S) {n : Int} : ft_C k_FT_setCapacity [.inr (.inr 0), .inl n] h (fun r h' => r = some (.inl (aCap n S).1) ∧ cFr h h' ∧ ((aCap n S).2 = none ∧ h' = h ∨ ∃ S', (aCap n S).2 = some S' ∧ h' 0 5 = min (h 0 5) 2 ∧ h' 294 2 = -1 ∧ ccI h' S' ((S :: P).take 8))) := by
  have s := hI.1.2
  rw [ft_sa_1] at s
  have w0 : h 1 0 = S.1 := congrArg (fun s : ftS => s.1) s
  have same : cFr h h := ⟨fun _ _ _ _ _ => rfl, fun _ _ => rfl, fun _ _ => rfl⟩
  have bad : aCap n S = (0, none) → ((some (.inl 0) : Option ftV) = some (.inl (aCap n S).1) ∧ cFr h h ∧ ((aCap n S).2 = none ∧ h = h ∨ ∃ S', (aCap n S).2 = some S' ∧ h 0 5 = min (h 0 5) 2 ∧ h 294 2 = -1 ∧ ccI h S' ((S :: P).take 8))) := fun e => by
    rw [e]
    exact ⟨rfl, same, Or.inl ⟨rfl, rfl⟩⟩
  refine ft_enter (n := 0) rfl (Nat.le_of_ble_eq_true rfl) rfl (b_FT_setCapacity_0 ⟨fun c => bad ?_, fun c => ⟨fun d => bad ?_, fun d => ⟨fun e => ⟨_, d_Hi_save hI, fun h1 hw h2 e2 => ?_⟩, fun e => bad ?_⟩⟩⟩)
  · unfold aCap; rw [if_pos (Or.inl (by omega))]
  · unfold aCap; rw [if_pos (Or.inl (by omega))]
  · obtain ⟨-, f1, gI⟩ := hw
    have hc1 : ¬ (¬ (1 ≤ n ∧ n ≤ 40) ∨ n = S.1) := fun q => q.elim (fun q => q (by omega)) (fun q => e (by rw [w0, q]))
    have k0 : h2 1 0 = n := by rw [e2, ft_hs_same]
    have f2 : ∀ k, k ≠ 1 → h2 k = h1 k := fun k hk => by rw [e2, ft_hs_ne k hk]
    have sg := gI.1.2
    rw [ft_sa_1] at sg
    have zg := gI.1.1
    have gI2 : ccI h2 (n, S.2.1, S.2.2.1, S.2.2.2.1, S.2.2.2.2) ((S :: P).take 8) := by
      refine ccI_st gI (fun k k1 k2 => f2 k (by omega)) ⟨by rw [f2 (1 + 1) (by omega)]; exact zg.1, by rw [f2 (1 + 4) (by omega)]; exact zg.2.1, by rw [f2 (1 + 7) (by omega)]; exact zg.2.2⟩ ?_
      rw [ft_sa_1, k0, ft_pl_same (h := h1) (a := 2) (f2 _ (by omega)) (f2 _ (by omega)) (f2 _ (by omega)), ft_pl_same (h := h1) (a := 5) (f2 _ (by omega)) (f2 _ (by omega)) (f2 _ (by omega)), ft_pl_same (h := h1) (a := 8) (f2 _ (by omega)) (f2 _ (by omega)) (f2 _ (by omega)), ft_ct_same (f2 11 (by omega)), ← sg]
    have w2 : ft_pl h1 5 = S.2.2.1 := congrArg (fun s : ftS => s.2.2.1) sg
    have hlen : (S.2.2.1.length : Int) = h2 5 2 := by
      rw [← w2, ft_pl_len, f2 5 (by omega)]
      have : 0 ≤ h1 5 2 := zg.2.1.1
      omega
    rw [k0]
    have fin : ∀ (g h3 : ftH) (S' : ftS), (∀ k, k ≠ 1 → k ≠ 5 → k ≠ 11 → g k = h1 k) → ccI g S' ((S :: P).take 8) → (∀ k, k ≠ 0 → k ≠ 294 → h3 k = g k) → (∀ j, j ≠ 5 → h3 0 j = g 0 j) → (∀ j, j ≠ 2 → h3 294 j = g 294 j) → h3 0 5 = min (g 0 5) 2 → h3 294 2 = -1 → cFr h h3 ∧ h3 0 5 = min (h 0 5) 2 ∧ h3 294 2 = -1 ∧ ccI h3 S' ((S :: P).take 8) := by
      intro g h3 S' y1 y2 y3 y4 y5 y6 y7
      refine ⟨⟨fun k k0 k1 k2 k3 => by rw [y3 k k0 k1, y1 k (by omega) (by omega) (by omega), f1 k k2 (by omega)], fun j hj => by rw [y4 j hj, y1 0 (by omega) (by omega) (by omega), f1 0 (by omega) (by omega)], fun j hj => by rw [y5 j hj, y1 294 (by omega) (by omega) (by omega), f1 294 (by omega) (by omega)]⟩, by rw [y6, y1 0 (by omega) (by omega) (by omega), f1 0 (by omega) (by omega)], y7, ccI_un y2 y3⟩
    refine ⟨⟨by omega, by omega⟩, fun q => ⟨_, c_FT_unsettle, fun h3 hw => ?_⟩, fun q => ⟨_, v_FT_empty gI2 hB hok.2.2.2.2, fun h4 hw => ?_⟩⟩
    · obtain ⟨-, y3, y4, y5, y6, y7⟩ := hw
      have e9 : aCap n S = (1, some (n, S.2.1, S.2.2.1, S.2.2.2.1, S.2.2.2.2)) := by unfold aCap; rw [if_neg hc1, if_pos (by omega)]
      rw [e9]
      obtain ⟨t1, t2, t3, t4⟩ := fin h2 h3 _ (fun k k1 _ _ => f2 k k1) gI2 y3 y4 y5 y6 y7
      exact ⟨rfl, t1, Or.inr ⟨_, rfl, t2, t3, t4⟩⟩
    · obtain ⟨-, v1, v2⟩ := hw
      refine ⟨_, c_FT_unsettle, fun h3 hw => ?_⟩
      obtain ⟨-, y3, y4, y5, y6, y7⟩ := hw
      have e9 : aCap n S = (1, some (n, S.2.1, [], S.2.2.2.1, ctEmpty (S.2.2.1.length : Int) S.2.2.2.2)) := by unfold aCap; rw [if_neg hc1, if_neg (by omega)]
      rw [e9]
      obtain ⟨t1, t2, t3, t4⟩ := fin h4 h3 _ (fun k k1 k2 k3 => by rw [v1 k k2 k3, f2 k k1]) v2 y3 y4 y5 y6 y7
      exact ⟨rfl, t1, Or.inr ⟨_, rfl, t2, t3, t4⟩⟩
  · unfold aCap; rw [if_pos (Or.inr (by rw [e, w0]))]
theorem d_FT_clear {h : ftH} {S : ftS} {P : List ftS} (hI : ccI h S P) {B : Int} (hB : B ≤ 1000000000) (hok : sOk B S) : ft_C k_FT_clear [.inr (.inr 0)] h (fun r h' => r = some (.inl (aClr S).1) ∧ cFr h h' ∧ ((aClr S).2 = none ∧ h' = h ∨ ∃ S', (aClr S).2 = some S' ∧ h' 0 5 = min (h 0 5) 3 ∧ h' 294 2 = -1 ∧ ccI h' S' ((S :: P).take 8))) := by
  have s := hI.1.2
  rw [ft_sa_1] at s
  have w2 : ft_pl h 5 = S.2.2.1 := congrArg (fun s : ftS => s.2.2.1) s
  have hlen : (S.2.2.1.length : Int) = h 5 2 := by
    rw [← w2, ft_pl_len]
    have : 0 ≤ h 5 2 := hI.1.1.2.1.1
    omega
  refine ft_enter (n := 1) rfl (Nat.le_of_ble_eq_true rfl) rfl (b_FT_clear_0 (fun n1 en => ⟨fun c => ⟨_, d_Hi_save hI, fun h1 hw => ?_⟩, fun c => ?_⟩))
  · obtain ⟨-, f1, gI⟩ := hw
    refine ⟨_, v_FT_empty gI hB hok.2.2.2.2, fun h4 hw => ?_⟩
    obtain ⟨-, v1, v2⟩ := hw
    refine ⟨_, c_FT_unsettle, fun h3 hw => ?_⟩
    obtain ⟨-, y3, y4, y5, y6, y7⟩ := hw
    have e9 : aClr S = ((S.2.2.1.length : Int), some (S.1, S.2.1, [], S.2.2.2.1, ctEmpty (S.2.2.1.length : Int) S.2.2.2.2)) := by unfold aClr; rw [if_neg (by omega)]
    rw [e9, en, ← hlen]
    refine ⟨rfl, ⟨fun k k0 k1 k2 k3 => by rw [y3 k k0 k1, v1 k (by omega) (by omega), f1 k k2 (by omega)], fun j hj => by rw [y4 j hj, v1 0 (by omega) (by omega), f1 0 (by omega) (by omega)], fun j hj => by rw [y5 j hj, v1 294 (by omega) (by omega), f1 294 (by omega) (by omega)]⟩, Or.inr ⟨_, rfl, by rw [y6, v1 0 (by omega) (by omega), f1 0 (by omega) (by omega)], y7, ccI_un v2 y3⟩⟩
  · have e9 : aClr S = (-2, none) := by unfold aClr; rw [if_pos (by omega)]
    rw [e9]
    exact ⟨rfl, ⟨fun _ _ _ _ _ => rfl, fun _ _ => rfl, fun _ _ => rfl⟩, Or.inl ⟨rfl, rfl⟩⟩
