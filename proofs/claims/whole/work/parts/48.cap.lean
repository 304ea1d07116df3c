/-! the capacity, clearing, on both sides -/
def aCap (n : Int) (S : ftS) : Int × Option ftS :=
  if ¬ (1 ≤ n ∧ n ≤ 40) ∨ n = S.1 then (0, none)
  else if (S.2.2.1.length : Int) ≤ 2 * n then (1, some (n, S.2.1, S.2.2.1, S.2.2.2.1, S.2.2.2.2))
  else (1, some (n, S.2.1, [], S.2.2.2.1, ctEmpty (S.2.2.1.length : Int) S.2.2.2.2))
def aClr (S : ftS) : Int × Option ftS :=
  if S.2.2.1.length = 0 then (-2, none) else ((S.2.2.1.length : Int), some (S.1, S.2.1, [], S.2.2.2.1, ctEmpty (S.2.2.1.length : Int) S.2.2.2.2))
theorem mc_bound {h : ftH} {S : ftS} {B : Int} (hok : sOk B S) (hs : ft_mc h = S.2.2.2.2) : (0 ≤ h 310 6 ∧ h 310 6 ≤ B) ∧ (0 ≤ h 310 8 ∧ h 310 8 ≤ B) := ⟨hok.2.2.2.2.2 _ (by rw [← hs]; simp [ft_mc]), hok.2.2.2.2.2 _ (by rw [← hs]; simp [ft_mc])⟩
/-- the reference's row with its hardware emptied -/
theorem v_Mo_clears {h : ftH} {S : ftS} {P : List ftS} (hI : mcI h S P) {B : Int} (hB : B ≤ 1000000000) (hc : S.2.2.2.2.length = 5 ∧ ∀ x ∈ S.2.2.2.2, 0 ≤ x ∧ x ≤ B) : ft_C k_Mo_clears [.inr (.inr 309)] h (fun r h' => r = none ∧ (∀ c, c ≠ 310 → h' c = h c) ∧ mcI h' (S.1, S.2.1, [], S.2.2.2.1, ctEmpty (S.2.2.1.length : Int) S.2.2.2.2) P) := by
  obtain ⟨z1, z2, z3, z4, z5⟩ := ft_mz_0.mp hI.1.1
  have s := hI.1.2
  rw [ft_ma_0] at s
  have w4 : ft_mc h = S.2.2.2.2 := congrArg (fun s : ftS => s.2.2.2.2) s
  have w2 : ft_ml h 310 270 (h 310 2).toNat = S.2.2.1 := congrArg (fun s : ftS => s.2.2.1) s
  have b6 := hc.2 (h 310 6) (by rw [← w4]; simp [ft_mc])
  have b8 := hc.2 (h 310 8) (by rw [← w4]; simp [ft_mc])
  have hlen : (S.2.2.1.length : Int) = h 310 2 := by rw [← w2, ft_ml_len]; omega
  refine ft_Cw (c_Mo_clears z2 (by omega) (by omega)) (fun r h' hw => ?_)
  obtain ⟨hr, f1, f2, f3, f4⟩ := hw
  have k0 : h' 310 0 = h 310 0 := f2 0 (by omega) (by omega) (by omega)
  have k1 : h' 310 1 = h 310 1 := f2 1 (by omega) (by omega) (by omega)
  have k3 : h' 310 3 = h 310 3 := f2 3 (by omega) (by omega) (by omega)
  refine ⟨hr, f1, mcI_310 hI f1 (ft_mz_0.mpr ⟨by rw [k0]; exact z1, by rw [f3]; omega, by rw [k1]; exact z3, fun k hk => ?_, fun k hk => ?_⟩) ?_⟩
  · rw [k0] at hk
    rw [f2 _ (by omega) (by omega) (by omega)]
    exact z4 k hk
  · rw [f3] at hk
    omega
  · have q1 : ft_ml h' 310 10 (h 310 0).toNat = ft_ml h 310 10 (h 310 0).toNat := ft_ml_mv (fun j hj => f2 _ (by omega) (by omega) (by omega))
    have q2 : ft_gl h' 310 190 (h 310 1).toNat = ft_gl h 310 190 (h 310 1).toNat := ft_gl_mv (fun j hj => f2 _ (by omega) (by omega) (by omega))
    rw [ft_ma_0, k0, k1, k3, f3, q1, q2, f4, hlen, ← w4, ← s]
    rfl
theorem d_Mo_setCapacity {h : ftH} {S : ftS} {P : List ftS} (hI : mcI h S P) {B : Int} (hB : B ≤ 1000000000) (hok : sOk B S) {n : Int} : ft_C k_Mo_setCapacity [.inr (.inr 309), .inl n] h (fun r h' => r = some (.inl (aCap n S).1) ∧ (∀ c, c ≠ 309 → c ≠ 310 → c ≠ 311 → h' c = h c) ∧ ((aCap n S).2 = none ∧ h' = h ∨ ∃ S', (aCap n S).2 = some S' ∧ (∀ j, j ≠ 4 → j ≠ 20 → h' 309 j = h 309 j) ∧ h' 309 20 = 0 ∧ mcI h' S' ((S :: P).take 8))) := by
  have s := hI.1.2
  rw [ft_ma_0] at s
  have w0 : h 310 3 = S.1 := congrArg (fun s : ftS => s.1) s
  refine ft_enter (n := 0) rfl (Nat.le_of_ble_eq_true rfl) rfl (b_Mo_setCapacity_0 ⟨fun c => ?_, fun c => ⟨fun d => ⟨_, d_Mo_keepsPast hI, fun g hw h2 e2 => ?_⟩, fun d => ?_⟩⟩)
  · have e : aCap n S = (0, none) := by unfold aCap; rw [if_pos (Or.inl c)]
    rw [e]
    exact ⟨rfl, fun _ _ _ _ => rfl, Or.inl ⟨rfl, rfl⟩⟩
  · obtain ⟨-, g1, g2, g3, gI⟩ := hw
    obtain ⟨z1, z2, z3, z4, z5⟩ := ft_mz_0.mp gI.1.1
    have sg := gI.1.2
    rw [ft_ma_0] at sg
    have f1 : ∀ c, c ≠ 310 → h2 c = g c := fun c hc => by rw [e2, ft_hs_ne c hc]
    have f2 : ∀ j, j ≠ 3 → h2 310 j = g 310 j := fun j hj => by rw [e2, ft_hs_j hj]
    have k3 : h2 310 3 = n := by rw [e2, ft_hs_same]
    have gI2 : mcI h2 (n, S.2.1, S.2.2.1, S.2.2.2.1, S.2.2.2.2) ((S :: P).take 8) := by
      refine mcI_310 gI f1 (ft_mz_0.mpr ⟨by rw [f2 0 (by omega)]; exact z1, by rw [f2 2 (by omega)]; exact z2, by rw [f2 1 (by omega)]; exact z3, fun k hk => by rw [f2 0 (by omega)] at hk; rw [f2 _ (by omega)]; exact z4 k hk, fun k hk => by rw [f2 2 (by omega)] at hk; rw [f2 _ (by omega)]; exact z5 k hk⟩) ?_
      rw [ft_ma_0, f2 0 (by omega), f2 1 (by omega), f2 2 (by omega), k3]
      have q1 : ft_ml h2 310 10 (g 310 0).toNat = ft_ml g 310 10 (g 310 0).toNat := ft_ml_mv (fun j _ => f2 _ (by omega))
      have q2 : ft_ml h2 310 270 (g 310 2).toNat = ft_ml g 310 270 (g 310 2).toNat := ft_ml_mv (fun j _ => f2 _ (by omega))
      have q3 : ft_gl h2 310 190 (g 310 1).toNat = ft_gl g 310 190 (g 310 1).toNat := ft_gl_mv (fun j _ => f2 _ (by omega))
      have q4 : ft_mc h2 = ft_mc g := by
        unfold ft_mc
        rw [f2 4 (by omega), f2 5 (by omega), f2 6 (by omega), f2 7 (by omega), f2 8 (by omega)]
      rw [q1, q2, q3, q4, ← sg]
    have w2 : ft_ml g 310 270 (g 310 2).toNat = S.2.2.1 := congrArg (fun s : ftS => s.2.2.1) sg
    have hlen : (S.2.2.1.length : Int) = g 310 2 := by rw [← w2, ft_ml_len]; omega
    have hc1 : ¬ (¬ (1 ≤ n ∧ n ≤ 40) ∨ n = S.1) := fun q => q.elim (fun q => q c) (fun q => d (by rw [w0, q]))
    rw [f2 2 (by omega), ft_mul_eq ⟨by omega, by omega⟩]
    refine ⟨fun e => ?_, fun e => ⟨_, v_Mo_clears gI2 hB hok.2.2.2.2, fun h3 hw => ?_⟩⟩
    · have e9 : aCap n S = (1, some (n, S.2.1, S.2.2.1, S.2.2.2.1, S.2.2.2.2)) := by unfold aCap; rw [if_neg hc1, if_pos (by omega)]
      rw [e9]
      exact ⟨rfl, fun c c1 c2 c3 => by rw [f1 c c2, g1 c c1 c3], Or.inr ⟨_, rfl, fun j j1 j2 => by rw [f1 309 (by omega), g2 j j1 j2], by rw [f1 309 (by omega), g3], gI2⟩⟩
    · have e9 : aCap n S = (1, some (n, S.2.1, [], S.2.2.2.1, ctEmpty (S.2.2.1.length : Int) S.2.2.2.2)) := by unfold aCap; rw [if_neg hc1, if_neg (by omega)]
      rw [e9]
      obtain ⟨-, y1, y2⟩ := hw
      exact ⟨rfl, fun c c1 c2 c3 => by rw [y1 c c2, f1 c c2, g1 c c1 c3], Or.inr ⟨_, rfl, fun j j1 j2 => by rw [y1 309 (by omega), f1 309 (by omega), g2 j j1 j2], by rw [y1 309 (by omega), f1 309 (by omega), g3], y2⟩⟩
  · have e : aCap n S = (0, none) := by unfold aCap; rw [if_pos (Or.inr (by rw [← w0, d]))]
    rw [e]
    exact ⟨rfl, fun _ _ _ _ => rfl, Or.inl ⟨rfl, rfl⟩⟩
theorem d_Mo_clear {h : ftH} {S : ftS} {P : List ftS} (hI : mcI h S P) {B : Int} (hB : B ≤ 1000000000) (hok : sOk B S) : ft_C k_Mo_clear [.inr (.inr 309)] h (fun r h' => r = some (.inl (aClr S).1) ∧ (∀ c, c ≠ 309 → c ≠ 310 → c ≠ 311 → h' c = h c) ∧ ((aClr S).2 = none ∧ h' = h ∨ ∃ S', (aClr S).2 = some S' ∧ (∀ j, j ≠ 4 → j ≠ 20 → h' 309 j = h 309 j) ∧ h' 309 20 = 0 ∧ mcI h' S' ((S :: P).take 8))) := by
  have s := hI.1.2
  rw [ft_ma_0] at s
  have z2 := (ft_mz_0.mp hI.1.1).2.1
  have w2 : ft_ml h 310 270 (h 310 2).toNat = S.2.2.1 := congrArg (fun s : ftS => s.2.2.1) s
  have hlen : (S.2.2.1.length : Int) = h 310 2 := by rw [← w2, ft_ml_len]; omega
  refine ft_enter (n := 1) rfl (Nat.le_of_ble_eq_true rfl) rfl (b_Mo_clear_0 ⟨fun c => ⟨_, d_Mo_keepsPast hI, fun g hw n3 e3 => ?_⟩, fun c => ?_⟩)
  · obtain ⟨-, g1, g2, g3, gI⟩ := hw
    refine ⟨_, v_Mo_clears gI hB hok.2.2.2.2, fun h3 hw => ?_⟩
    obtain ⟨-, y1, y2⟩ := hw
    have e9 : aClr S = ((S.2.2.1.length : Int), some (S.1, S.2.1, [], S.2.2.2.1, ctEmpty (S.2.2.1.length : Int) S.2.2.2.2)) := by unfold aClr; rw [if_neg (by omega)]
    rw [e9, e3, g1 310 (by omega) (by omega), ← hlen]
    exact ⟨rfl, fun c c1 c2 c3 => by rw [y1 c c2, g1 c c1 c3], Or.inr ⟨_, rfl, fun j j1 j2 => by rw [y1 309 (by omega), g2 j j1 j2], by rw [y1 309 (by omega), g3], y2⟩⟩
  · have e9 : aClr S = (-2, none) := by unfold aClr; rw [if_pos (by omega)]
    rw [e9]
    exact ⟨rfl, fun _ _ _ _ => rfl, Or.inl ⟨rfl, rfl⟩⟩
