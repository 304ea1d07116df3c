/-! SYNC OF THE REFERENCE: its parts -/
theorem c_Mo_laysAside {h : ftH} : ft_C k_Mo_laysAside [.inr (.inr 309)] h (fun r h' => r = none ∧ (∀ c, c ≠ 312 → h' c = h c) ∧ ∀ j, j < 520 → h' 312 j = h 310 j) := by
  refine ft_enter (n := 1) rfl (Nat.le_of_ble_eq_true rfl) rfl (b_Mo_laysAside_0 ?_)
  have loop : ∀ (m i : Nat) (g : ftH), i + m = 520 → (∀ c, c ≠ 312 → g c = h c) → (∀ j, j < i → g 312 j = h 310 j) → ft_V k_Mo_laysAside 2 [some (.inr (.inr 309)), some (.inl (i : Int))] [] g (fun r h' => r = none ∧ (∀ c, c ≠ 312 → h' c = h c) ∧ ∀ j, j < 520 → h' 312 j = h 310 j) := by
    intro m
    induction m with
    | zero =>
      intro i g hm f q
      exact b_Mo_laysAside_2 ⟨fun _ => ⟨rfl, f, fun j hj => q j (by omega)⟩, fun c => absurd (by omega) c⟩
    | succ m ih =>
      intro i g hm f q
      refine b_Mo_laysAside_2 ⟨fun c => absurd c (by omega), fun _ => ⟨⟨by omega, by omega⟩, ⟨by omega, by omega⟩, fun h1 e1 => ?_⟩⟩
      rw [Int.toNat_natCast, f 310 (by omega)] at e1
      rw [inc1 (by omega)]
      refine ih (i + 1) h1 (by omega) (fun c hc => by rw [e1, ft_hs_ne c hc, f c hc]) (fun j hj => ?_)
      by_cases t : j = i
      · rw [t, e1, ft_hs_same]
      · rw [e1, ft_hs_j t, q j (by omega)]
  exact loop 520 0 h (by omega) (fun _ _ => rfl) (fun j hj => absurd hj (Nat.not_lt_zero j))
theorem c_Mo_comesBack {h : ftH} : ft_C k_Mo_comesBack [.inr (.inr 309)] h (fun r h' => r = none ∧ (∀ c, c ≠ 310 → h' c = h c) ∧ ∀ j, j < 520 → h' 310 j = h 312 j) := by
  refine ft_enter (n := 1) rfl (Nat.le_of_ble_eq_true rfl) rfl (b_Mo_comesBack_0 ?_)
  have loop : ∀ (m i : Nat) (g : ftH), i + m = 520 → (∀ c, c ≠ 310 → g c = h c) → (∀ j, j < i → g 310 j = h 312 j) → ft_V k_Mo_comesBack 2 [some (.inr (.inr 309)), some (.inl (i : Int))] [] g (fun r h' => r = none ∧ (∀ c, c ≠ 310 → h' c = h c) ∧ ∀ j, j < 520 → h' 310 j = h 312 j) := by
    intro m
    induction m with
    | zero =>
      intro i g hm f q
      exact b_Mo_comesBack_2 ⟨fun _ => ⟨rfl, f, fun j hj => q j (by omega)⟩, fun c => absurd (by omega) c⟩
    | succ m ih =>
      intro i g hm f q
      refine b_Mo_comesBack_2 ⟨fun c => absurd c (by omega), fun _ => ⟨⟨by omega, by omega⟩, ⟨by omega, by omega⟩, fun h1 e1 => ?_⟩⟩
      rw [Int.toNat_natCast, f 312 (by omega)] at e1
      rw [inc1 (by omega)]
      refine ih (i + 1) h1 (by omega) (fun c hc => by rw [e1, ft_hs_ne c hc, f c hc]) (fun j hj => ?_)
      by_cases t : j = i
      · rw [t, e1, ft_hs_same]
      · rw [e1, ft_hs_j t, q j (by omega)]
  exact loop 520 0 h (by omega) (fun _ _ => rfl) (fun j hj => absurd hj (Nat.not_lt_zero j))
theorem mcI_520 {h h' : ftH} {S : ftS} {P : List ftS} (hI : mcI h S P) (f0 : ∀ j, j < 520 → h' 310 j = h 310 j) (f1 : h' 311 = h 311) (f4 : h' 309 4 = h 309 4) : mcI h' S P := by
  obtain ⟨⟨z, s⟩, h4, hP, hd⟩ := hI
  have k0 := ft_ma_mv (h := h) (h' := h') (c := 310) (o := 0) (c' := 310) (o' := 0) z (fun j hj => by rw [Nat.zero_add]; exact f0 j hj)
  refine ⟨⟨k0.2, by rw [k0.1, s]⟩, by rw [f4, h4], hP, fun d X hX => ?_⟩
  have h9 := hd d X hX
  have hk := ft_ma_mv (h := h) (h' := h') (c := 311) (o := 520 * (P.length - 1 - d)) (c' := 311) (o' := 520 * (P.length - 1 - d)) h9.1 (fun j _ => by rw [f1])
  exact ⟨hk.2, by rw [hk.1, h9.2]⟩
/-- where the hardware has a key -/
theorem c_Mo_hwAt {h : ftH} {S : ftS} {P : List ftS} (hI : mcI h S P) {v l : Int} (hv : ft_in v) (hl : 0 ≤ l ∧ l ≤ 32) : ft_C k_Mo_placeOf [.inr (.inr 309), .inl 270, .inl (h 310 2), .inl v, .inl l] h (fun q h' => h' = h ∧ ∃ r : Int, q = some (.inl r) ∧ ((r = -2 ∧ ¬ hasK S.2.2.1 (64 * pUn v + l) = true) ∨ ∃ p : Nat, r = (p : Int) ∧ p < S.2.2.1.length ∧ p < 80 ∧ S.2.2.1[p]? = some (64 * pUn v + l, h 310 (272 + 3 * p)) ∧ hasK S.2.2.1 (64 * pUn v + l) = true)) := by
  obtain ⟨z1, z2, z3, z4, z5⟩ := ft_mz_0.mp hI.1.1
  obtain ⟨e0, e1, e2, e3, e4⟩ := mc_eq hI
  have l2 := (mc_len hI).2.1
  have hn : h 310 2 = ((h 310 2).toNat : Int) := by omega
  rw [hn]
  refine ft_Cw (c_Mo_placeOf (o := 270) (n := (h 310 2).toNat) (by omega) (fun k hk => z5 k (by omega)) hv hl) (fun q h' w => ?_)
  obtain ⟨rfl, r, w1, w2⟩ := w
  refine ⟨rfl, r, w1, ?_⟩
  rw [e2] at w2
  rcases w2 with ⟨r1, r2⟩ | ⟨p, q, r1, r2, r3, r4⟩
  · exact Or.inl ⟨r1, fun t => by
      obtain ⟨x, x1, x2⟩ := hasK_iff.mp t
      exact r2 x x1 x2⟩
  · refine Or.inr ⟨p, r1, by omega, by omega, ?_, hasK_iff.mpr ⟨q, List.mem_of_getElem? r3, r4⟩⟩
    have hg := ft_ml_get (h := h') (c := 310) (o := 270) r2
    rw [e2, r3] at hg
    rw [r3, ← r4]
    have := congrArg Prod.snd (Option.some.inj hg)
    simp only at this
    rw [show 272 + 3 * p = 270 + 3 * p + 2 by omega, ← this]
theorem c_Mo_targetAt {h : ftH} {T : List (Int × Int)} (hT : tgI h T) (h60 : T.length ≤ 60) {v l : Int} (hv : ft_in v) (hl : 0 ≤ l ∧ l ≤ 32) : ft_C k_Mo_targetAt [.inr (.inr 309), .inl v, .inl l] h (fun q h' => h' = h ∧ ∃ r : Int, q = some (.inl r) ∧ ((r = -2 ∧ ¬ hasK T (64 * pUn v + l) = true) ∨ (0 ≤ r ∧ hasK T (64 * pUn v + l) = true))) := by
  refine ft_enter (n := 1) rfl (Nat.le_of_ble_eq_true rfl) rfl (fv_wf (fun hw => b_Mo_targetAt_0 ?_))
  have loop : ∀ m i : Nat, i + m = T.length → (∀ j, j < i → kAt T j ≠ 64 * pUn v + l) → ft_V k_Mo_targetAt 2 [some (.inr (.inr 309)), some (.inl v), some (.inl l), some (.inl (i : Int))] [] h (fun q h' => h' = h ∧ ∃ r : Int, q = some (.inl r) ∧ ((r = -2 ∧ ¬ hasK T (64 * pUn v + l) = true) ∨ (0 ≤ r ∧ hasK T (64 * pUn v + l) = true))) := by
    intro m
    induction m with
    | zero =>
      intro i hm hb
      refine b_Mo_targetAt_2 ⟨fun _ => ⟨rfl, -2, rfl, Or.inl ⟨rfl, fun t => ?_⟩⟩, fun c => absurd (by rw [hT.1]; omega) c⟩
      obtain ⟨x, x1, x2⟩ := hasK_iff.mp t
      obtain ⟨j, hj⟩ := List.getElem?_of_mem x1
      have hj2 := (List.getElem?_eq_some_iff.mp hj).1
      have := (kAt_of hj).1
      exact hb j (by omega) (by omega)
    | succ m ih =>
      intro i hm hb
      have ha := tgI_at hT (show i < T.length by omega)
      have hri := hT.2.2 i (by omega)
      have hke := ft_keyeq (v := v) (hw 326 i) hv hri hl
      have next : ¬ (h 326 i = v ∧ h 327 i = l) → ft_V k_Mo_targetAt 2 [some (.inr (.inr 309)), some (.inl v), some (.inl l), some (.inl ((i + 1 : Nat) : Int))] [] h (fun q h' => h' = h ∧ ∃ r : Int, q = some (.inl r) ∧ ((r = -2 ∧ ¬ hasK T (64 * pUn v + l) = true) ∨ (0 ≤ r ∧ hasK T (64 * pUn v + l) = true))) := fun hne => ih (i + 1) (by omega) (fun j hj => by
        by_cases e : j = i
        · rw [e, ha.1]; exact fun q => hne (hke.mp q)
        · exact hb j (by omega))
      refine b_Mo_targetAt_2 ⟨fun c => absurd c (by rw [hT.1]; omega), fun c => ?_⟩
      rw [inc1 (by omega), Int.toNat_natCast]
      refine ⟨⟨by omega, by omega⟩, fun d => next (fun q => d q.1), fun d => ⟨⟨by omega, by omega⟩, fun e => next (fun q => e q.2), fun e => ⟨rfl, (i : Int), rfl, Or.inr ⟨by omega, ?_⟩⟩⟩⟩
      have hk : kAt T i = 64 * pUn v + l := by rw [ha.1]; exact hke.mpr ⟨d, e⟩
      exact hasK_iff.mpr ⟨_, List.mem_of_getElem? (kAt_get (show i < T.length by omega)), hk⟩
  exact loop T.length 0 (by omega) (fun j hj => absurd hj (Nat.not_lt_zero j))
