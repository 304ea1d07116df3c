/-! the reference's change of a route: the same as the class's (hwChange) -/
theorem pArd_ct {v l k : Int} (hl : 0 ≤ l ∧ l ≤ 32) (hk : pK k) : pArd k (kOf v l) = true ↔ k % 64 < l ∧ pCt k (pUn v) := by
  have h1 := kOf_ln (v := v) hl
  rw [pCt_iff hk, pArd_iff, h1.1, h1.2]
  rfl
theorem isLg_any {L : List (Int × Int)} (hL : lOk L) {v l r : Int} (hl : 0 ≤ l ∧ l ≤ 32) (h : isLg L (pUn v) l r) : (r < 0 ↔ L.any (fun q => pArd q.1 (kOf v l)) = false) := by
  rcases h with ⟨rfl, h1⟩ | ⟨p, q, rfl, h1, h2, -⟩
  · refine ⟨fun _ => ?_, fun _ => by omega⟩
    rw [List.any_eq_false]
    intro q hq hp
    exact h1 q hq ((pArd_ct hl (hL.1 q hq).1).mp hp)
  · refine ⟨fun hc => by omega, fun hc => ?_⟩
    rw [List.any_eq_false] at hc
    have hq := List.mem_of_getElem? h1
    exact absurd ((pArd_ct hl (hL.1 q hq).1).mpr h2) (hc q hq)
theorem c_Mo_routeChanged {o : Nat} (ho : o = 270) {h : ftH} {n : Nat} (hn : h 310 2 = n) (hcap : 1 ≤ h 310 3 ∧ h 310 3 ≤ 40) (hroom : (n : Int) ≤ 2 * h 310 3) (hc : ctB (ft_mc h)) (hr : ∀ k, k < n → 0 ≤ h 310 (o + 3 * k + 1) ∧ h 310 (o + 3 * k + 1) ≤ 32) (hL : lOk (ft_ml h 310 o n)) {v l : Int} (hl : 0 ≤ l ∧ l ≤ 32) (ha : pUn v % pSz l = 0) :
    ft_C k_Mo_routeChanged [.inr (.inr 309), .inl v, .inl l] h (fun r h' => r = none ∧ (∀ c, c ≠ 310 → h' c = h c) ∧ (∀ j, j < 270 → j ≠ 2 → j ≠ 6 → j ≠ 7 → j ≠ 8 → h' 310 j = h 310 j) ∧ ∃ n' : Nat, h' 310 2 = n' ∧ (n' : Int) ≤ 2 * h 310 3 ∧ (∀ k, k < n' → 0 ≤ h' 310 (o + 3 * k + 1) ∧ h' 310 (o + 3 * k + 1) ≤ 32) ∧ ft_ml h' 310 o n' = (hwChange (kOf v l) (2 * h 310 3) (ft_ml h 310 o n) (ft_mc h)).1 ∧ ft_mc h' = (hwChange (kOf v l) (2 * h 310 3) (ft_ml h 310 o n) (ft_mc h)).2.1) := by
  have b6 := hc (h 310 6) (by simp [ft_mc])
  have b7 := hc (h 310 7) (by simp [ft_mc])
  have b8 := hc (h 310 8) (by simp [ft_mc])
  refine ft_enter (n := 1) rfl (Nat.le_of_ble_eq_true rfl) rfl (b_Mo_routeChanged_0 (fun h1 e1 n1 en => ?_))
  rw [ft_add_eq ⟨by omega, by omega⟩] at e1
  have f1 : ∀ j, j ≠ 7 → h1 310 j = h 310 j := fun j hj => by rw [e1, ft_hs_j hj]
  have q7 : h1 310 7 = h 310 7 + 1 := by rw [e1, ft_hs_same]
  rw [en, f1 2 (by omega), hn, ft_sub_eq ⟨by omega, by omega⟩]
  have p1 : ft_ml h1 310 o n = ft_ml h 310 o n := ft_ml_mv (fun j hj => f1 _ (by omega))
  refine v_Mo_routeChanged ho (h0 := h1) (by rw [f1 2 (by omega), hn]) (by omega) (by rw [f1 6 (by omega)]; exact b6) (fun k hk => by rw [f1 _ (by omega)]; exact hr k hk) hl ha (fun g m g1 g2 g3 g4 g5 g6 g7 => ?_) n h1 n (Nat.le_refl n) (fun _ _ => rfl) (fun _ _ _ _ => rfl) (by rw [f1 2 (by omega), hn]) (Nat.le_refl n) (fun k hk => by rw [f1 _ (by omega)]; exact hr k hk) (by omega) (by rw [List.take_of_length_le (by rw [ft_ml_len]; omega), List.drop_of_length_le (by rw [ft_ml_len]; omega)]; simp)
  rw [p1] at g7
  have hLf := lOk_filter (p := fun q => !pIns (kOf v l) q.1) hL
  rw [← g7] at hLf
  rw [f1 6 (by omega)] at g6
  have k3 : g 310 3 = h 310 3 := by rw [g2 3 (by omega) (by omega) (by omega), f1 3 (by omega)]
  have k4 : g 310 4 = h 310 4 := by rw [g2 4 (by omega) (by omega) (by omega), f1 4 (by omega)]
  have k5 : g 310 5 = h 310 5 := by rw [g2 5 (by omega) (by omega) (by omega), f1 5 (by omega)]
  have k7 : g 310 7 = h 310 7 + 1 := by rw [g2 7 (by omega) (by omega) (by omega), q7]
  have k8 : g 310 8 = h 310 8 := by rw [g2 8 (by omega) (by omega) (by omega), f1 8 (by omega)]
  have fr : ∀ c, c ≠ 310 → g c = h c := fun c hc' => by rw [g1 c hc', e1, ft_hs_ne c hc']
  have frj : ∀ j, j < 270 → j ≠ 2 → j ≠ 6 → j ≠ 7 → j ≠ 8 → g 310 j = h 310 j := fun j j0 j1 j2 j3 _ => by rw [g2 j j0 j1 j2, f1 j j3]
  have hmc : ft_mc g = [h 310 4, h 310 5, h 310 6 + ((n : Int) - m), h 310 7 + 1, h 310 8] := by
    unfold ft_mc
    rw [k4, k5, g6, k7, k8]
  have hml1 : ((ft_ml h 310 o n).filter (fun q => !pIns (kOf v l) q.1)).length = m := by rw [← g7, ft_ml_len]
  unfold hwChange
  have ect : ft_mc h = [h 310 4, h 310 5, h 310 6, h 310 7, h 310 8] := rfl
  simp only [ect, ft_ml_len, hml1]
  rw [← g7]
  refine b_Mo_routeChanged_20 ⟨fun _ => ?_, fun c => absurd (by decide) c⟩
  rw [g3]
  have e270 : (270 : Int) = ((o : Nat) : Int) := by omega
  rw [e270]
  refine ⟨_, c_Mo_longest (o := o) (n := m) (by omega) g5, fun z h2 _ hw => ?_⟩
  obtain ⟨rfl, r, hz, hlg⟩ := hw
  cases hz
  have hany := isLg_any hLf hl hlg
  refine ⟨fun c => ?_, fun c => ?_⟩
  · have ha1 : (ft_ml h2 310 o m).any (fun q => pArd q.1 (kOf v l)) = true := by
      cases hq : (ft_ml h2 310 o m).any (fun q => pArd q.1 (kOf v l)) with
      | true => rfl
      | false => exact absurd (hany.mpr hq) (by omega)
    rw [if_pos ha1, k3, g3, ft_mul_eq ⟨by omega, by omega⟩]
    refine ⟨fun d => ?_, fun d => ?_⟩
    · rw [if_neg (by omega)]
      refine ⟨_, c_Mo_clears (by omega) (by omega) (by omega), fun h3 hw => ?_⟩
      obtain ⟨-, s1, s2, s3, s4⟩ := hw
      refine ⟨rfl, fun c hc' => by rw [s1 c hc', fr c hc'], fun j j0 j1 j2 j3 j4 => by rw [s2 j j1 j2 j4, frj j j0 j1 j2 j3 j4], 0, s3, by omega, fun k hk => absurd hk (Nat.not_lt_zero k), rfl, ?_⟩
      rw [s4, g3, hmc]
    · rw [if_pos (by omega)]
      have hne : ∀ q ∈ ft_ml h2 310 o m, q.1 ≠ 64 * pUn v + l := fun q hq he => by
        rw [g7] at hq
        have h9 := (List.mem_filter.mp hq).2
        have h8 : pIns (kOf v l) q.1 = true := by
          rw [he, pIns_iff]
          have := pSz_pos (kOf v l % 64)
          unfold kOf at *
          omega
        rw [h8] at h9
        cases h9
      refine ⟨_, c_Mo_putsHardware ho g3 (by omega) (by omega) g5 hLf.2 hl hne, fun h3 hw => ?_⟩
      obtain ⟨-, s1, s2, s3, s4, s5, s6⟩ := hw
      refine ⟨rfl, fun c hc' => by rw [s1 c hc', fr c hc'], fun j j0 j1 j2 j3 j4 => by rw [s2 j j0 j1 j2, frj j j0 j1 j2 j3 j4], m + 1, by rw [s3]; rfl, by omega, s6, s5, ?_⟩
      unfold ft_mc
      rw [s2 4 (by omega) (by omega) (by omega), s2 5 (by omega) (by omega) (by omega), s4, s2 7 (by omega) (by omega) (by omega), s2 8 (by omega) (by omega) (by omega), k4, k5, g6, k7, k8]
  · have ha0 : (ft_ml h2 310 o m).any (fun q => pArd q.1 (kOf v l)) = false := hany.mp (by omega)
    rw [if_neg (by rw [ha0]; decide)]
    exact ⟨rfl, fr, frj, m, g3, by omega, g5, rfl, hmc⟩
/-- the churn's growth is what the change tells -/
theorem hwChange_churn (key room : Int) (L : List (Int × Int)) (c0 c1 c2 c3 c4 : Int) : ((hwChange key room L [c0, c1, c2, c3, c4]).2.1).getD 2 0 = c2 + (hwChange key room L [c0, c1, c2, c3, c4]).2.2 := by
  unfold hwChange
  simp only
  split
  · split
    · simp
      omega
    · unfold ctEmpty
      simp only
      split
      · simp
        omega
      · next hc =>
        simp
        omega
  · simp
