/-! packets -/
/-- counted for the hardware, or for the software -/
def ctPkt (hard : Bool) (n : Int) (c : List Int) : List Int := match c with
  | [c0, c1, c2, c3, c4] => if hard = true then [c0 + n, c1, c2, c3, c4] else [c0, c1 + n, c2, c3, c4]
  | _ => c
/-- what packets do to a state -/
def isPkt (x n : Int) (S S' : ftS) : Prop := ∃ g, isSee x n S.2.2.2.1 g ∧ S' = (S.1, S.2.1, S.2.2.1, g, ctPkt (ansB S.2.2.1 x) n S.2.2.2.2)
theorem isPkt_uniq {x n : Int} {S S1 S2 : ftS} (h1 : isPkt x n S S1) (h2 : isPkt x n S S2) : S1 = S2 := by
  obtain ⟨g1, a1, rfl⟩ := h1
  obtain ⟨g2, a2, rfl⟩ := h2
  rw [isSee_uniq a1 a2]
theorem d_FT_packet {h : ftH} {S : ftS} {P : List ftS} (hI : ccI h S P) {B : Int} (hB : B ≤ 1000000000) (hok : sOk B S) {a n : Int} : ft_C k_FT_packet [.inr (.inr 0), .inl a, .inl n] h (fun r h' => cFr h h' ∧ ((¬ (1 ≤ n ∧ n ≤ 9999) ∧ r = some (.inl (-1)) ∧ h' = h) ∨ ((1 ≤ n ∧ n ≤ 9999) ∧ r = some (.inl (if ansB S.2.2.1 (pUn a) = true then 1 else 0)) ∧ ∃ S', isPkt (pUn a) n S S' ∧ h' 0 5 = min (h 0 5) 2 ∧ h' 294 2 = -1 ∧ ccI h' S' ((S :: P).take 8)))) := by
  have same : cFr h h := ⟨fun _ _ _ _ _ => rfl, fun _ _ => rfl, fun _ _ => rfl⟩
  refine ft_enter (n := 3) rfl (Nat.le_of_ble_eq_true rfl) rfl (b_FT_packet_0 ⟨fun c => ⟨same, Or.inl ⟨by omega, rfl, rfl⟩⟩, fun c => ⟨fun d => ⟨_, d_Hi_save hI, fun h1 hw n3 e3 => ?_⟩, fun d => ⟨same, Or.inl ⟨by omega, rfl, rfl⟩⟩⟩⟩)
  subst e3
  obtain ⟨-, f1, gI⟩ := hw
  obtain ⟨q1, q2, q3⟩ := cc_ps gI hok
  have sg := gI.1.2
  rw [ft_sa_1] at sg
  have v2 : ft_pl h1 5 = S.2.2.1 := congrArg (fun s : ftS => s.2.2.1) sg
  have v3 : ft_pl h1 8 = S.2.2.2.1 := congrArg (fun s : ftS => s.2.2.2.1) sg
  have v4 : ft_ct h1 11 = S.2.2.2.2 := congrArg (fun s : ftS => s.2.2.2.2) sg
  refine ⟨_, d_PS_answersByHop (a := 5) (shc_6_2 sh_1) q2, fun z6 h2 _ hw => ?_⟩
  obtain ⟨hz, rfl⟩ := hw
  cases hz
  rw [v2]
  refine ⟨_, c_TL_see (a := 8) (shc_6_3 sh_1) q3 (pUn_rng a) ⟨by omega, by omega⟩, fun h3 hw => ?_⟩
  obtain ⟨-, f3, t3, p3⟩ := hw
  rw [v3] at p3
  have gI3 := ccI_log gI f3 t3
  have e11 : h3 11 = h2 11 := f3 11 (by omega)
  have b0 := hok.2.2.2.2.2 (h2 11 0) (by rw [← v4]; simp [ft_ct])
  have b1 := hok.2.2.2.2.2 (h2 11 1) (by rw [← v4]; simp [ft_ct])
  -- the counts, then unsettle
  have fin : ∀ (g h5 : ftH) (c : List Int), (∀ k, k ≠ 11 → g k = h3 k) → ft_ct g 11 = c → (∀ k, k ≠ 0 → k ≠ 294 → h5 k = g k) → (∀ j, j ≠ 5 → h5 0 j = g 0 j) → (∀ j, j ≠ 2 → h5 294 j = g 294 j) → h5 0 5 = min (g 0 5) 2 → h5 294 2 = -1 → cFr h h5 ∧ h5 0 5 = min (h 0 5) 2 ∧ h5 294 2 = -1 ∧ ccI h5 (S.1, S.2.1, S.2.2.1, ft_pl h3 8, c) ((S :: P).take 8) := by
    intro g h5 c y1 y2 y3 y4 y5 y6 y7
    have s3 := gI3.1.2
    rw [ft_sa_1] at s3
    have gI4 : ccI g (S.1, S.2.1, S.2.2.1, ft_pl h3 8, c) ((S :: P).take 8) := by
      obtain ⟨z1, z2, z3⟩ := gI3.1.1
      refine ccI_st gI3 (fun k k1 k2 => y1 k (by omega)) ⟨by rw [y1 (1 + 1) (by omega)]; exact z1, by rw [y1 (1 + 4) (by omega)]; exact z2, by rw [y1 (1 + 7) (by omega)]; exact z3⟩ ?_
      rw [ft_sa_1, y1 1 (by omega), ft_pl_same (h := h3) (a := 2) (y1 _ (by omega)) (y1 _ (by omega)) (y1 _ (by omega)), ft_pl_same (h := h3) (a := 5) (y1 _ (by omega)) (y1 _ (by omega)) (y1 _ (by omega)), ft_pl_same (h := h3) (a := 8) (y1 _ (by omega)) (y1 _ (by omega)) (y1 _ (by omega)), y2]
      have r0 : h3 1 0 = S.1 := congrArg (fun s : ftS => s.1) s3
      have r1 : ft_pl h3 2 = S.2.1 := congrArg (fun s : ftS => s.2.1) s3
      have r2 : ft_pl h3 5 = S.2.2.1 := congrArg (fun s : ftS => s.2.2.1) s3
      rw [r0, r1, r2]
    exact ⟨⟨fun k k0 k1 k2 k3 => by rw [y3 k k0 k1, y1 k (by omega), f3 k (by omega), f1 k k2 (by omega)], fun j hj => by rw [y4 j hj, y1 0 (by omega), f3 0 (by omega), f1 0 (by omega) (by omega)], fun j hj => by rw [y5 j hj, y1 294 (by omega), f3 294 (by omega), f1 294 (by omega) (by omega)]⟩, by rw [y6, y1 0 (by omega), f3 0 (by omega), f1 0 (by omega) (by omega)], y7, ccI_un gI4 y3⟩
  rw [e11]
  refine ⟨fun e h4 e4 => ⟨_, c_FT_unsettle, fun h5 hw => ?_⟩, fun e h4 e4 => ⟨_, c_FT_unsettle, fun h5 hw => ?_⟩⟩
  · obtain ⟨-, y3, y4, y5, y6, y7⟩ := hw
    have hno := ft_if0.mp e
    rw [ft_addL_eq ⟨by omega, by omega⟩] at e4
    have hct : ft_ct h4 11 = ctPkt (ansB S.2.2.1 (pUn a)) n S.2.2.2.2 := by
      rw [← v4]
      unfold ft_ct ctPkt
      simp only
      rw [if_neg hno, e4, ft_hs_j (by omega), ft_hs_same, ft_hs_j (by omega), ft_hs_j (by omega), ft_hs_j (by omega), e11]
    obtain ⟨t1, t2, t4, t5⟩ := fin h4 h5 _ (fun k hk => by rw [e4, ft_hs_ne k hk]) hct y3 y4 y5 y6 y7
    refine ⟨fun _ => ⟨t1, Or.inr ⟨by omega, by rw [if_neg hno], _, ⟨_, p3, rfl⟩, t2, t4, t5⟩⟩, fun q => absurd e q⟩
  · obtain ⟨-, y3, y4, y5, y6, y7⟩ := hw
    have hyes := ft_if1.mp e
    rw [ft_addL_eq ⟨by omega, by omega⟩] at e4
    have hct : ft_ct h4 11 = ctPkt (ansB S.2.2.1 (pUn a)) n S.2.2.2.2 := by
      rw [← v4]
      unfold ft_ct ctPkt
      simp only
      rw [if_pos hyes, e4, ft_hs_same, ft_hs_j (by omega), ft_hs_j (by omega), ft_hs_j (by omega), ft_hs_j (by omega), e11]
    obtain ⟨t1, t2, t4, t5⟩ := fin h4 h5 _ (fun k hk => by rw [e4, ft_hs_ne k hk]) hct y3 y4 y5 y6 y7
    refine ⟨fun q => absurd q e, fun _ => ⟨t1, Or.inr ⟨by omega, by rw [if_pos hyes], _, ⟨_, p3, rfl⟩, t2, t4, t5⟩⟩⟩
