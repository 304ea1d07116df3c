/-! READING THE TAPE: the reference's load, whole -/
theorem fv_Vw {K : ftM} {pc : Nat} {L : List (Option ftV)} {st : List ftV} {h : ftH} {R R' : Option ftV → ftH → Prop} (hv : ft_V K pc L st h R) (hw : ∀ r h', R r h' → R' r h') : ft_V K pc L st h R' := by
  intro p l e s m args below meth c D ad cA H locs ls hC hR hL hS hl T hT X
  obtain ⟨t, h1, h2⟩ := hv p l e s m args below meth c D ad cA H locs ls hC hR hL hS hl T hT X
  refine ⟨t, h1, ?_⟩
  unfold MQ at h2 ⊢
  obtain ⟨o, a1, a2, a3, a4⟩ := h2
  exact ⟨o, a1, a2, ft_Qw hw a3, a4⟩
theorem v_Mo_ld18 {h0 : ftH} {R : Option ftV → ftH → Prop} (hk : ∀ h', (∀ c, c ≠ 332 → h' c = h0 c) → (∀ j, j < 520 → h' 332 j = 0) → (∃ R1 : Option ftV → ftH → Prop, ft_C k_Mo_goesOn [.inr (.inr 309)] h' R1 ∧ ∀ h1 : ftH, R1 none h1 → (∃ R3 : Option ftV → ftH → Prop, ft_C k_Mo_needsWord [.inr (.inr 309), .inl 0] h1 R3 ∧ ∀ h2 : ftH, R3 none h2 → (∃ R5 : Option ftV → ftH → Prop, ft_C k_Mo_needsNumber [.inr (.inr 309), .inl 1, .inl 40] h2 R5 ∧ ∀ (z7 : Int) (h3 : ftH), ft_in z7 → R5 (some (.inl z7)) h3 → (∀ h4 : ftH, h4 = ft_hs h3 332 3 z7 → (∃ R8 : Option ftV → ftH → Prop, ft_C k_Mo_needsSign [.inr (.inr 309), .inl 59] h4 R8 ∧ ∀ h5 : ftH, R8 none h5 → ft_V k_Mo_load 66 [some (.inr (.inr 309)), none] [] h5 R)))))) : ∀ (m i : Nat) (g : ftH), i + m = 520 → (∀ c, c ≠ 332 → g c = h0 c) → (∀ j, j < i → g 332 j = 0) → ft_V k_Mo_load 18 [some (.inr (.inr 309)), some (.inl (i : Int))] [] g R := by
  intro m
  induction m with
  | zero =>
    intro i g hm f fj
    exact b_Mo_load_18 ⟨fun _ => hk g f (fun j hj => fj j (by omega)), fun c => absurd (by omega) c⟩
  | succ m ih =>
    intro i g hm f fj
    refine b_Mo_load_18 ⟨fun c => absurd c (by omega), fun _ => ⟨⟨by omega, by omega⟩, fun h6 k6 => ?_⟩⟩
    rw [Int.toNat_natCast] at k6
    rw [inc1 (by omega)]
    refine ih (i + 1) h6 (by omega) (fun c hc => by rw [k6, ft_hs_ne c hc, f c hc]) (fun j hj => ?_)
    by_cases e : j = i
    · rw [e, k6, ft_hs_same]
    · rw [k6, ft_hs_j e]
      exact fj j (by omega)
theorem d_Mo_load {h : ftH} {T : List Int} (hB : rdB h T) : ft_C k_Mo_load [.inr (.inr 309)] h (ldM T (pLd T) h) := by
  rw [pLd_eq]
  refine ft_enter (n := 1) rfl (Nat.le_of_ble_eq_true rfl) rfl (b_Mo_load_0 (fun h1 k1 h2 k2 h3 k3 => ?_))
  have a3 : ∀ c, c ≠ 309 → h3 c = h c := fun c hc => by rw [k3, ft_hs_ne c hc, k2, ft_hs_ne c hc, k1, ft_hs_ne c hc]
  have a9 : ∀ j, j < 36 → h3 309 j = h 309 j := fun j hj => by rw [k3, ft_hs_j (by omega), k2, ft_hs_j (by omega), k1, ft_hs_j (by omega)]
  have w36 : h3 309 36 = 0 := by rw [k3, ft_hs_j (by omega), k2, ft_hs_j (by omega), k1, ft_hs_same]
  have w42 : h3 309 42 = -2 := by rw [k3, ft_hs_j (by omega), k2, ft_hs_same]
  have w43 : h3 309 43 = 0 := by rw [k3, ft_hs_same]
  refine v_Mo_ld18 (h0 := h3) (fun h4 b1 b2 => ?_) 520 0 h3 (by omega) (fun _ _ => rfl) (fun j hj => absurd hj (Nat.not_lt_zero j))
  have f4 : rlF h h4 := ⟨fun c c1 c2 => by rw [b1 c c2, a3 c c1], fun j hj => by rw [b1 309 (by omega), a9 j hj]⟩
  have B4 : rdB h4 T := ⟨fun j hj => by rw [f4.1 331 (by omega) (by omega)]; exact hB.1 j hj, by rw [f4.2 34 (by omega)]; exact hB.2.1, hB.2.2.1, fun j x hx => by rw [f4.1 330 (by omega) (by omega)]; exact hB.2.2.2 j x hx⟩
  refine ⟨_, c_Mo_goesOn B4.1 B4.2 (p := 0) (by rw [b1 309 (by omega)]; exact w36) (Nat.zero_le _), fun h5 u5 => ?_⟩
  obtain ⟨-, g5, t5⟩ := u5
  have x5 : rdI h5 T (.inr 0) := ⟨by rw [g5.2 43 (by omega), b1 309 (by omega)]; exact w43, ⟨Nat.zero_le _, by rw [g5.2 42 (by omega), b1 309 (by omega)]; exact w42⟩, t5⟩
  have F5 := rdF_g g5
  refine ⟨_, c_Mo_needsWord (rdF_B F5 B4) x5 (w := 0) (by omega), fun h6 u6 => ?_⟩
  obtain ⟨-, f6, x6⟩ := u6
  have F6 := rdF_tr F5 f6
  refine ⟨_, c_Mo_needsNumber (rdF_B F6 B4) x6, fun z7 h7 _ u7 h8 k8 => ?_⟩
  obtain ⟨r7, f7, x7⟩ := u7
  cases r7
  have F7 := rdF_tr F6 f7
  have D8 : rlF h4 h8 := ⟨fun c c1 c2 => by rw [k8, ft_hs_ne c c2, F7.1 c c1], fun j hj => by rw [k8, ft_hs_ne 309 (by omega), F7.2 j hj]⟩
  have x8 : rdI h8 T (nX T 1 40 (wX T (0 + 3) (.inr 0))).2 := rdI_fr (by rw [k8, ft_hs_ne 309 (by omega)]) x7
  have B8 : rdB h8 T := by
    have := rdF_B F7 B4
    refine ⟨fun j hj => by rw [k8, ft_hs_ne 331 (by omega)]; exact this.1 j hj, by rw [k8, ft_hs_ne 309 (by omega)]; exact this.2.1, this.2.2.1, fun j x hx => by rw [k8, ft_hs_ne 330 (by omega)]; exact this.2.2.2 j x hx⟩
  refine ⟨_, c_Mo_needsSign B8 x8 (Or.inr (Or.inr rfl)), fun h9 u9 => ?_⟩
  obtain ⟨-, f9, x9⟩ := u9
  have D9 : rlF h h9 := ⟨fun c c1 c2 => by rw [f9.1 c c1, D8.1 c c1 c2, f4.1 c c1 c2], fun j hj => by rw [f9.2 j hj, D8.2 j hj, f4.2 j hj]⟩
  have B9 := rdF_B f9 B8
  have rf : rrF h9 h9 := ⟨fun _ _ _ => rfl, fun _ _ => rfl, fun _ _ _ => rfl⟩
  have w1 : wX T (0 + 3) (.inr 0) = if tkK T 0 = 3 then .inr (tkE T 0) else .inl (tkS T 0) := rfl
  rw [w1] at x9
  have bad : ∀ e, rdI h9 T (.inl e) → ft_V k_Mo_load 66 [some (.inr (.inr 309)), none] [] h9 (ldM T (.inl e) h) := fun e xe => fv_Vw (v_Mo_ld66b rf rfl xe) (fun r h' w => ldM_of D9 w)
  by_cases c1 : tkK T 0 = 3
  · rw [if_pos c1] at x9 ⊢
    simp only [nX] at x9
    by_cases c2 : nmB T (tkE T 0) 1 40 = true
    · rw [if_pos c2] at x9 ⊢
      simp only [wX] at x9
      by_cases c3 : tkK T (tkE T (tkE T 0)) = 59
      · rw [if_pos c3] at x9 ⊢
        refine fv_Vw (v_Mo_ld66 B9 61 [] _ h9 rfl ⟨fun q hq => by simp at hq, List.Pairwise.nil, by simp⟩ ⟨rf, rfl, x9, ⟨⟨?_, rfl, fun k hk => absurd hk (Nat.not_lt_zero k)⟩, ?_, rfl⟩, ?_, ?_, ?_⟩) (fun r h' w => ldM_of D9 w)
        · rw [f9.1 332 (by omega), k8, ft_hs_j (by omega), F7.1 332 (by omega), b2 0 (by omega)]
          rfl
        · rw [f9.1 332 (by omega), k8, ft_hs_j (by omega), F7.1 332 (by omega), b2 1 (by omega)]
          rfl
        · rw [f9.1 332 (by omega), k8, ft_hs_same, w1, if_pos c1]
          simp only [nX]
          rw [if_pos c2]
        · rw [f9.1 332 (by omega), k8, ft_hs_j (by omega), F7.1 332 (by omega), b2 2 (by omega)]
        · intro j j1 j2
          rw [f9.1 332 (by omega), k8, ft_hs_j (by omega), F7.1 332 (by omega), b2 j (by omega)]
      · rw [if_neg c3] at x9 ⊢
        exact bad _ x9
    · rw [if_neg c2] at x9 ⊢
      exact bad _ x9
  · rw [if_neg c1] at x9 ⊢
    exact bad _ x9
