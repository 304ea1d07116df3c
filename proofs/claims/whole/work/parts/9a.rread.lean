/-! READING THE TAPE: the reference's readsSeen -/
def sX (T : List Int) (x : Nat ⊕ Nat) : Nat ⊕ Nat := wX T 59 (nX T 1 999 (wX T 7 (nX T 0 255 x).2)).2
theorem sX_bad (T : List Int) (e : Nat) : sX T (.inl e) = .inl e := rfl
theorem sX_good (T : List Int) (p : Nat) (h : nmB T p 0 255 = true) : sX T (.inr p) = if tkK T (tkE T p) = 7 then (if nmB T (tkE T (tkE T p)) 1 999 = true then (if tkK T (tkE T (tkE T (tkE T p))) = 59 then .inr (tkE T (tkE T (tkE T (tkE T p)))) else .inl (tkS T (tkE T (tkE T (tkE T p))))) else .inl (tkS T (tkE T (tkE T p)))) else .inl (tkS T (tkE T p)) := by
  unfold sX
  simp only [nX]
  rw [if_pos h]
  simp only [wX]
  by_cases c2 : tkK T (tkE T p) = 7
  · rw [if_pos c2, if_pos c2]
    simp only [nX]
    by_cases c3 : nmB T (tkE T (tkE T p)) 1 999 = true
    · rw [if_pos c3, if_pos c3]
    · rw [if_neg c3, if_neg c3]
  · rw [if_neg c2, if_neg c2]
theorem v_Mo_rs83 {h : ftH} {T : List Int} (hB : rdB h T) {x : Nat ⊕ Nat} (hx : rdI h T x) {Q G : List (Int × Int)} (ht : tdI h Q G) (hq : G.length < 40) (hQ : Q.length ≤ 60) {z5 : Int} (hz : 0 ≤ z5 ∧ z5 < 16777216) {R : Option ftV → ftH → Prop} (hk : ∀ h', rrF h h' → rdI h' T (sX T x) → (∀ p', sX T x = .inr p' → tdI h' Q (G ++ [(256 * z5 + (nX T 0 255 x).1, (nX T 1 999 (wX T 7 (nX T 0 255 x).2)).1)])) → R none h') : ft_V k_Mo_readsSeen 83 [some (.inr (.inr 309)), some (.inl z5), none] [] h R := by
  refine b_Mo_readsSeen_83 ⟨_, c_Mo_needsNumber hB hx, fun z3 h1 _ u1 n4 e4 => ?_⟩
  obtain ⟨r1, f1, x1⟩ := u1
  cases r1
  have en4 : pUn n4 = 256 * z5 + (nX T 0 255 x).1 := by rw [e4]; exact ft_or8 hz (nX_rng T x)
  refine ⟨_, c_Mo_needsWord (rdF_B f1 hB) x1 (w := 4) (by omega), fun h2 u2 => ?_⟩
  obtain ⟨-, f2, x2⟩ := u2
  have F2 := rdF_tr f1 f2
  refine ⟨_, c_Mo_needsNumber (rdF_B F2 hB) x2, fun z9 h3 _ u3 => ?_⟩
  obtain ⟨r3, f3, x3⟩ := u3
  cases r3
  have F3 := rdF_tr F2 f3
  refine ⟨_, c_Mo_needsSign (rdF_B F3 hB) x3 (Or.inr (Or.inr rfl)), fun h4 u4 => ?_⟩
  obtain ⟨-, f4, x4⟩ := u4
  have F4 := rdF_tr F3 f4
  have x4' : rdI h4 T (sX T x) := x4
  have ht4 := tdI_fr (F4.1 332 (by omega)) ht
  refine ⟨fun c => ?_, fun c => hk h4 (rrF_d F4) x4' (fun p' hp => ?_)⟩
  · obtain ⟨⟨t1, t2, t3⟩, t4, t5⟩ := ht4
    have e11 : ft_add 190 (ft_mul 2 (h4 332 1)) = ((190 + 2 * G.length : Nat) : Int) := by
      rw [t4, ft_mul_eq ⟨by omega, by omega⟩, ft_add_eq ⟨by omega, by omega⟩]
      omega
    rw [e11, Int.toNat_natCast]
    refine ⟨⟨by omega, by omega⟩, fun h5 k5 => ?_⟩
    have e12 : ft_add (ft_add 190 (ft_mul 2 (h5 332 1))) 1 = ((190 + 2 * G.length + 1 : Nat) : Int) := by
      rw [k5, ft_hs_j (by omega), e11]
      exact inc1 (by omega)
    rw [e12, Int.toNat_natCast]
    refine ⟨⟨by omega, by omega⟩, fun h6 k6 h7 k7 => ?_⟩
    have hw1 : h6 332 1 = (G.length : Int) := by rw [k6, ft_hs_j (by omega), k5, ft_hs_j (by omega), t4]
    rw [hw1, inc1 (by omega)] at k7
    have gc : ∀ c, c ≠ 332 → h7 c = h4 c := fun c hc => by rw [k7, ft_hs_ne c hc, k6, ft_hs_ne c hc, k5, ft_hs_ne c hc]
    have gj : ∀ j, j ≠ 1 → j ≠ 190 + 2 * G.length → j ≠ 190 + 2 * G.length + 1 → h7 332 j = h4 332 j := fun j a b c => by rw [k7, ft_hs_j a, k6, ft_hs_j c, k5, ft_hs_j b]
    have v0 : h7 332 (190 + 2 * G.length) = n4 := by rw [k7, ft_hs_j (by omega), k6, ft_hs_j (by omega), k5, ft_hs_same]
    have v1 : h7 332 (190 + 2 * G.length + 1) = (nX T 1 999 (wX T 7 (nX T 0 255 x).2)).1 := by rw [k7, ft_hs_j (by omega), k6, ft_hs_same]; rfl
    refine hk h7 (rrF_tr (rrF_d F4) ⟨fun c _ c2 => gc c c2, fun j _ => by rw [gc 309 (by omega)], fun j j1 j2 => gj j (by omega) (by omega) (by omega)⟩) (rdI_fr (gc 309 (by omega)) x4') (fun p' hp => ?_)
    have hlen : (G ++ [(256 * z5 + (nX T 0 255 x).1, (nX T 1 999 (wX T 7 (nX T 0 255 x).2)).1)]).length = G.length + 1 := by rw [List.length_append, List.length_singleton]
    refine ⟨⟨by rw [gj 0 (by omega) (by omega) (by omega)]; exact t1, ?_, fun k hk => ?_⟩, by rw [k7, ft_hs_same, hlen], ?_⟩
    · rw [ft_ml_mv (h := h4) (c := 332) (o := 10) (fun j hj => gj _ (by omega) (by omega) (by omega))]
      exact t2
    · rw [gj _ (by omega) (by omega) (by omega)]
      exact t3 k hk
    · rw [hlen, ft_gl_snoc, v0, v1, en4]
      congr 1
      rw [ft_gl_mv (h := h4) (c := 332) (o := 190) (fun j hj => gj _ (by omega) (by omega) (by omega))]
      exact t5
  · rw [hp] at x4'
    exact absurd x4'.1 c
theorem c_Mo_readsSeen {h : ftH} {T : List Int} (hB : rdB h T) {p : Nat} (hx : rdI h T (.inr p)) {Q G : List (Int × Int)} (ht : tdI h Q G) (h40 : G.length ≤ 40) (hQ : Q.length ≤ 60) : ft_C k_Mo_readsSeen [.inr (.inr 309)] h (fun r h' => r = none ∧ rrF h h' ∧ ((∃ e, pSe T G p = .inl e ∧ rdI h' T (.inl e)) ∨ ∃ G' p', pSe T G p = .inr (G', p') ∧ rdI h' T (.inr p') ∧ tdI h' Q G')) := by
  have hB0 := ht.2.1
  refine ft_enter (n := 2) rfl (Nat.le_of_ble_eq_true rfl) rfl (b_Mo_readsSeen_0 ⟨fun c => ?_, fun c => ⟨_, c_Mo_fails hx, fun h1 u1 => ?_⟩⟩)
  rotate_left
  · obtain ⟨-, f1, x1⟩ := u1
    refine b_Mo_readsSeen_15 ⟨fun q => ?_, fun _ => ⟨rfl, rrF_d f1, Or.inl ⟨tkS T p, ?_, x1⟩⟩⟩
    · have := x1.1
      omega
    · unfold pSe
      rw [if_pos (by omega)]
  have hq : G.length < 40 := by omega
  have fin : ∀ (y : Nat ⊕ (List (Int × Int) × Nat)) (g : ftH) (z5 : Int) (x : Nat ⊕ Nat), pSe T G p = y → 0 ≤ z5 ∧ z5 < 16777216 → rrF h g → rdI g T x → tdI g Q G → ((∃ e, y = .inl e ∧ sX T x = .inl e) ∨ ∃ G' p', y = .inr (G', p') ∧ sX T x = .inr p' ∧ G' = G ++ [(256 * z5 + (nX T 0 255 x).1, (nX T 1 999 (wX T 7 (nX T 0 255 x).2)).1)]) → ft_V k_Mo_readsSeen 83 [some (.inr (.inr 309)), some (.inl z5), none] [] g (fun r h' => r = none ∧ rrF h h' ∧ ((∃ e, pSe T G p = .inl e ∧ rdI h' T (.inl e)) ∨ ∃ G' p', pSe T G p = .inr (G', p') ∧ rdI h' T (.inr p') ∧ tdI h' Q G')) := by
    intro y g z5 x ey hz f xg tg hres
    rw [ey]
    refine v_Mo_rs83 (rrF_B f hB) xg tg hq hQ hz (fun h' w2 w3 w4 => ?_)
    refine ⟨rfl, rrF_tr f w2, ?_⟩
    rcases hres with ⟨e, r1, r2⟩ | ⟨G', p', r1, r2, r3⟩
    · rw [r2] at w3
      exact Or.inl ⟨e, r1, w3⟩
    · rw [r2] at w3
      rw [r3] at r1
      exact Or.inr ⟨_, p', r1, w3, w4 p' r2⟩
  refine b_Mo_readsSeen_15 ⟨fun _ => ⟨_, d_Mo_goesOn hB hx, fun h1 u1 => ?_⟩, fun q => absurd hx.1 q⟩
  obtain ⟨-, f1, x1⟩ := u1
  refine ⟨_, c_Mo_readsBytes (rdF_B f1 hB) x1, fun z5 h2 _ u2 => ?_⟩
  obtain ⟨r2, f2, x2⟩ := u2
  cases r2
  have F2 := rdF_tr f1 f2
  have D2 := rrF_d F2
  have t2 := tdI_fr (F2.1 332 (by omega)) ht
  obtain ⟨a1, a2⟩ := bX_pAd T (tkE T p)
  have br := bX_rng T 3 0 (.inr (tkE T p)) 0 (by omega) (by omega)
  have hz : 0 ≤ (bX T 3 0 (.inr (tkE T p))).1 ∧ (bX T 3 0 (.inr (tkE T p))).1 < 16777216 := ⟨br.1, by have := br.2; simpa using this⟩
  cases hA : pAd T (tkE T p) with
  | inl e =>
    have a1 := a1 e hA
    have ey : pSe T G p = .inl e := by unfold pSe; rw [if_neg (by omega), hA]
    have hs : sX T (bX T 3 0 (.inr (tkE T p))).2 = .inl e := by
      unfold sX
      rw [a1]
      rfl
    -- whatever token stands here, it is no number of a byte
    have stay : ∀ g : ftH, g = h2 → ft_V k_Mo_readsSeen 83 [some (.inr (.inr 309)), some (.inl (bX T 3 0 (.inr (tkE T p))).1), none] [] g (fun r h' => r = none ∧ rrF h h' ∧ ((∃ e, pSe T G p = .inl e ∧ rdI h' T (.inl e)) ∨ ∃ G' p', pSe T G p = .inr (G', p') ∧ rdI h' T (.inr p') ∧ tdI h' Q G')) := fun g eg => by
      rw [eg]
      exact fin _ h2 _ _ ey hz D2 x2 t2 (Or.inl ⟨e, rfl, hs⟩)
    refine ⟨fun _ => stay h2 rfl, fun q => ⟨fun _ => stay h2 rfl, fun q1 => ⟨fun _ => stay h2 rfl, fun q2 => ?_⟩⟩⟩
    cases hb : (bX T 3 0 (.inr (tkE T p))).2 with
    | inl e' =>
      rw [hb] at x2
      have := x2.1
      omega
    | inr p4 =>
      rw [hb] at x2 a1
      have hk := tmK_num x2.2.2.2.2
      have k2 := hk.1.mp q1
      rw [hk.2 k2] at q2
      have nb : nmB T p4 0 255 = true := nmB_iff.mpr ⟨k2, q2⟩
      simp only [nX] at a1
      rw [if_pos nb] at a1
      cases a1
  | inr wp =>
    obtain ⟨v, p4⟩ := wp
    obtain ⟨b1, b2, b3⟩ := a2 v p4 hA
    have ey : pSe T G p = pSb T G v p4 := by unfold pSe; rw [if_neg (by omega), hA]
    rw [b1] at x2
    have hk := tmK_num x2.2.2.2.2
    have nb := nmB_iff.mp b2
    have n1 : nX T 0 255 (.inr p4) = (tkN T p4, .inr (tkE T p4)) := by simp only [nX]; rw [if_pos b2]
    refine ⟨fun q => absurd x2.1 q, fun _ => ⟨fun q => absurd (hk.1.mpr nb.1) q, fun _ => ?_⟩⟩
    rw [hk.2 nb.1]
    refine ⟨fun q => absurd nb.2 q, fun _ => ⟨_, c_Mo_isSeen t2 h40, fun z10 h3 _ u3 => ?_⟩⟩
    obtain ⟨r3, rfl⟩ := u3
    cases r3
    rw [ft_or8 hz nb.2, ← b3]
    refine ⟨fun q => ?_, fun q => ⟨_, c_Mo_fails x2, fun h4 u4 => ?_⟩⟩
    · have nk := ft_if0.mp q
      refine fin _ h3 _ (.inr p4) ey hz D2 x2 t2 ?_
      unfold pSb
      rw [if_neg nk, sX_good T p4 b2]
      by_cases c3 : tkK T (tkE T p4) = 7
      · rw [if_pos c3, if_pos c3]
        by_cases c4 : nmB T (tkE T (tkE T p4)) 1 999 = true
        · rw [if_pos c4, if_pos c4]
          by_cases c5 : tkK T (tkE T (tkE T (tkE T p4))) = 59
          · rw [if_pos c5, if_pos c5]
            refine Or.inr ⟨_, _, rfl, rfl, ?_⟩
            have n2 : (nX T 1 999 (wX T 7 (nX T 0 255 (.inr p4)).2)).1 = tkN T (tkE T (tkE T p4)) := by
              rw [n1]
              simp only [wX]
              rw [if_pos c3]
              simp only [nX]
              rw [if_pos c4]
            rw [n2, n1, b3]
          · rw [if_neg c5, if_neg c5]
            exact Or.inl ⟨_, rfl, rfl⟩
        · rw [if_neg c4, if_neg c4]
          exact Or.inl ⟨_, rfl, rfl⟩
      · rw [if_neg c3, if_neg c3]
        exact Or.inl ⟨_, rfl, rfl⟩
    · have yk := ft_if1.mp q
      refine fin _ h4 _ (.inl (tkS T p4)) ey hz (rrF_tr D2 (rrF_d u4.2.1)) u4.2.2 (tdI_fr (u4.2.1.1 332 (by omega)) t2) (Or.inl ⟨tkS T p4, ?_, rfl⟩)
      unfold pSb
      rw [if_pos yk]
