/-! READING THE TAPE: the reference's readsRoute, readsSeen -/
def tdI (h : ftH) (Q G : List (Int × Int)) : Prop := (h 332 0 = (Q.length : Int) ∧ ft_ml h 332 10 Q.length = Q ∧ ∀ k, k < Q.length → 0 ≤ h 332 (10 + 3 * k + 1) ∧ h 332 (10 + 3 * k + 1) ≤ 32) ∧ (h 332 1 = (G.length : Int) ∧ ft_gl h 332 190 G.length = G)
theorem tdI_fr {h h' : ftH} {Q G : List (Int × Int)} (f : h' 332 = h 332) (ht : tdI h Q G) : tdI h' Q G := by
  unfold tdI ft_ml ft_gl at ht ⊢
  rw [f]
  exact ht
theorem ft_ml_snoc (h : ftH) (c o n : Nat) : ft_ml h c o (n + 1) = ft_ml h c o n ++ [(64 * pUn (h c (o + 3 * n)) + h c (o + 3 * n + 1), h c (o + 3 * n + 2))] := by
  unfold ft_ml
  rw [List.range_succ, List.map_append]
  rfl
theorem ft_gl_snoc (h : ftH) (c o n : Nat) : ft_gl h c o (n + 1) = ft_gl h c o n ++ [(pUn (h c (o + 2 * n)), h c (o + 2 * n + 1))] := by
  unfold ft_gl
  rw [List.range_succ, List.map_append]
  rfl
theorem c_Mo_isTold {h : ftH} {Q G : List (Int × Int)} (ht : tdI h Q G) (h60 : Q.length ≤ 60) {v l : Int} (hl : 0 ≤ l ∧ l ≤ 32) : ft_C k_Mo_isTold [.inr (.inr 309), .inl v, .inl l] h (fun r h' => r = some (.inl (if hasK Q (64 * pUn v + l) = true then 1 else 0)) ∧ h' = h) := by
  obtain ⟨⟨t1, t2, t3⟩, -⟩ := ht
  have loop : ∀ m i : Nat, i + m = Q.length → (∀ j q, j < i → Q[j]? = some q → q.1 ≠ 64 * pUn v + l) → ft_V k_Mo_isTold 2 [some (.inr (.inr 309)), some (.inl v), some (.inl l), some (.inl (i : Int))] [] h (fun r h' => r = some (.inl (if hasK Q (64 * pUn v + l) = true then 1 else 0)) ∧ h' = h) := by
    intro m
    induction m with
    | zero =>
      intro i hm hne
      refine b_Mo_isTold_2 ⟨fun _ => ⟨?_, rfl⟩, fun c => absurd (by omega) c⟩
      rw [if_neg (fun q => ?_)]
      obtain ⟨r, hr, er⟩ := hasK_iff.mp q
      obtain ⟨j, hj⟩ := List.getElem?_of_mem hr
      exact hne j r (by have := (List.getElem?_eq_some_iff.mp hj).1; omega) hj er
    | succ m ih =>
      intro i hm hne
      have hi : i < Q.length := by omega
      have hg := ft_ml_get (h := h) (c := 332) (o := 10) hi
      rw [t2] at hg
      have h3 := t3 i hi
      have e1 : ft_add 10 (ft_mul 3 (i : Int)) = ((10 + 3 * i : Nat) : Int) := by
        rw [ft_mul_eq ⟨by omega, by omega⟩, ft_add_eq ⟨by omega, by omega⟩]
        omega
      have e2 : ft_add ((10 + 3 * i : Nat) : Int) 1 = ((10 + 3 * i + 1 : Nat) : Int) := inc1 (by omega)
      have nx : ¬ (64 * pUn (h 332 (10 + 3 * i)) + h 332 (10 + 3 * i + 1) = 64 * pUn v + l) → ft_V k_Mo_isTold 2 [some (.inr (.inr 309)), some (.inl v), some (.inl l), some (.inl ((i + 1 : Nat) : Int))] [] h (fun r h' => r = some (.inl (if hasK Q (64 * pUn v + l) = true then 1 else 0)) ∧ h' = h) := fun hn => by
        refine ih (i + 1) (by omega) (fun j q hj hq => ?_)
        by_cases e : j = i
        · rw [e, hg] at hq
          cases hq
          exact hn
        · exact hne j q (by omega) hq
      refine fv_okl (i := 1) rfl (fun ov => fv_wf (fun hw => b_Mo_isTold_2 ⟨fun c => absurd c (by omega), fun _ => ?_⟩))
      have iv : ft_in (h 332 (10 + 3 * i)) := hw 332 _
      rw [e1, e2, Int.toNat_natCast, Int.toNat_natCast, inc1 (by omega)]
      refine ⟨⟨by omega, by omega⟩, fun c => nx (fun q => c ((pUn_inj iv ov).mp (by omega))), fun c => ⟨⟨by omega, by omega⟩, fun d => nx (fun q => d ?_), fun d => ⟨?_, rfl⟩⟩⟩
      · rw [c] at q
        omega
      · rw [if_pos (hasK_iff.mpr ⟨_, List.mem_of_getElem? hg, by simp only; rw [c, d]⟩)]
  exact ft_enter (n := 1) rfl (Nat.le_of_ble_eq_true rfl) rfl (b_Mo_isTold_0 (loop Q.length 0 (by omega) (fun j q hj => absurd hj (Nat.not_lt_zero j))))
theorem c_Mo_isSeen {h : ftH} {Q G : List (Int × Int)} (ht : tdI h Q G) (h40 : G.length ≤ 40) {v : Int} : ft_C k_Mo_isSeen [.inr (.inr 309), .inl v] h (fun r h' => r = some (.inl (if hasK G (pUn v) = true then 1 else 0)) ∧ h' = h) := by
  obtain ⟨-, t1, t2⟩ := ht
  have loop : ∀ m i : Nat, i + m = G.length → (∀ j q, j < i → G[j]? = some q → q.1 ≠ pUn v) → ft_V k_Mo_isSeen 2 [some (.inr (.inr 309)), some (.inl v), some (.inl (i : Int))] [] h (fun r h' => r = some (.inl (if hasK G (pUn v) = true then 1 else 0)) ∧ h' = h) := by
    intro m
    induction m with
    | zero =>
      intro i hm hne
      refine b_Mo_isSeen_2 ⟨fun _ => ⟨?_, rfl⟩, fun c => absurd (by omega) c⟩
      rw [if_neg (fun q => ?_)]
      obtain ⟨r, hr, er⟩ := hasK_iff.mp q
      obtain ⟨j, hj⟩ := List.getElem?_of_mem hr
      exact hne j r (by have := (List.getElem?_eq_some_iff.mp hj).1; omega) hj er
    | succ m ih =>
      intro i hm hne
      have hi : i < G.length := by omega
      have hg := ft_gl_get (h := h) (c := 332) (o := 190) hi
      rw [t2] at hg
      have e1 : ft_add 190 (ft_mul 2 (i : Int)) = ((190 + 2 * i : Nat) : Int) := by
        rw [ft_mul_eq ⟨by omega, by omega⟩, ft_add_eq ⟨by omega, by omega⟩]
        omega
      refine fv_okl (i := 1) rfl (fun ov => fv_wf (fun hw => b_Mo_isSeen_2 ⟨fun c => absurd c (by omega), fun _ => ?_⟩))
      have iv : ft_in (h 332 (190 + 2 * i)) := hw 332 _
      rw [e1, Int.toNat_natCast, inc1 (by omega)]
      refine ⟨⟨by omega, by omega⟩, fun c => ih (i + 1) (by omega) (fun j q hj hq => ?_), fun c => ⟨?_, rfl⟩⟩
      · by_cases e : j = i
        · rw [e, hg] at hq
          cases hq
          exact fun z => c ((pUn_inj iv ov).mp z)
        · exact hne j q (by omega) hq
      · rw [if_pos (hasK_iff.mpr ⟨_, List.mem_of_getElem? hg, by simp only; rw [c]⟩)]
  exact ft_enter (n := 1) rfl (Nat.le_of_ble_eq_true rfl) rfl (b_Mo_isSeen_0 (loop G.length 0 (by omega) (fun j q hj => absurd hj (Nat.not_lt_zero j))))
def rrF (h h' : ftH) : Prop := (∀ c, c ≠ 309 → c ≠ 332 → h' c = h c) ∧ (∀ j, j < 36 → h' 309 j = h 309 j) ∧ ∀ j, 2 ≤ j → j < 10 → h' 332 j = h 332 j
theorem rrF_d {h h' : ftH} (f : rdF h h') : rrF h h' := ⟨fun c c1 _ => f.1 c c1, f.2, fun j _ _ => by rw [f.1 332 (by omega)]⟩
theorem rrF_tr {h g k : ftH} (a : rrF h g) (b : rrF g k) : rrF h k := ⟨fun c c1 c2 => by rw [b.1 c c1 c2, a.1 c c1 c2], fun j hj => by rw [b.2.1 j hj, a.2.1 j hj], fun j j1 j2 => by rw [b.2.2 j j1 j2, a.2.2 j j1 j2]⟩
theorem rrF_B {h h' : ftH} {T : List Int} (f : rrF h h') (hB : rdB h T) : rdB h' T := ⟨fun j hj => by rw [f.1 331 (by omega) (by omega)]; exact hB.1 j hj, by rw [f.2.1 34 (by omega)]; exact hB.2.1, hB.2.2.1, fun j x hx => by rw [f.1 330 (by omega) (by omega)]; exact hB.2.2.2 j x hx⟩
theorem rdI_fr {h h' : ftH} {T : List Int} {x : Nat ⊕ Nat} (f : h' 309 = h 309) (hx : rdI h T x) : rdI h' T x := by
  cases x with
  | inl e =>
    unfold rdI at hx ⊢
    rw [f]
    exact hx
  | inr p =>
    unfold rdI tmI tmK at hx ⊢
    rw [f]
    exact hx
def rX (T : List Int) (x : Nat ⊕ Nat) : Nat ⊕ Nat := wX T 59 (nX T 0 15 (wX T 5 (nX T 0 32 x).2)).2
theorem v_Mo_rr110 {h : ftH} {T : List Int} (hB : rdB h T) {x : Nat ⊕ Nat} (hx : rdI h T x) {Q G : List (Int × Int)} (ht : tdI h Q G) (hq : Q.length < 60) {n9 : Int} {R : Option ftV → ftH → Prop} (hk : ∀ h', rrF h h' → rdI h' T (rX T x) → (∀ p', rX T x = .inr p' → tdI h' (Q ++ [(64 * pUn n9 + (nX T 0 32 x).1, (nX T 0 15 (wX T 5 (nX T 0 32 x).2)).1)]) G) → R none h') : ft_V k_Mo_readsRoute 110 [some (.inr (.inr 309)), some (.inl n9), none, none, none] [] h R := by
  refine b_Mo_readsRoute_110 ⟨_, c_Mo_needsNumber hB hx, fun z3 h1 _ u1 => ?_⟩
  obtain ⟨r1, f1, x1⟩ := u1
  cases r1
  refine ⟨_, c_Mo_needsWord (rdF_B f1 hB) x1 (w := 2) (by omega), fun h2 u2 => ?_⟩
  obtain ⟨-, f2, x2⟩ := u2
  have F2 := rdF_tr f1 f2
  refine ⟨_, c_Mo_needsNumber (rdF_B F2 hB) x2, fun z8 h3 _ u3 => ?_⟩
  obtain ⟨r3, f3, x3⟩ := u3
  cases r3
  have F3 := rdF_tr F2 f3
  refine ⟨_, c_Mo_needsSign (rdF_B F3 hB) x3 (Or.inr (Or.inr rfl)), fun h4 u4 => ?_⟩
  obtain ⟨-, f4, x4⟩ := u4
  have F4 := rdF_tr F3 f4
  have x4' : rdI h4 T (rX T x) := x4
  have ht4 := tdI_fr (F4.1 332 (by omega)) ht
  refine ⟨fun c n11 e11 => ?_, fun c => hk h4 (rrF_d F4) x4' (fun p' hp => ?_)⟩
  · obtain ⟨⟨t1, t2, t3⟩, t4, t5⟩ := ht4
    rw [t1, ft_mul_eq ⟨by omega, by omega⟩, ft_add_eq ⟨by omega, by omega⟩] at e11
    have en : n11 = ((10 + 3 * Q.length : Nat) : Int) := by omega
    have a1 : ft_add n11 1 = ((10 + 3 * Q.length + 1 : Nat) : Int) := by rw [ft_add_eq ⟨by omega, by omega⟩]; omega
    have a2 : ft_add n11 2 = ((10 + 3 * Q.length + 2 : Nat) : Int) := by rw [ft_add_eq ⟨by omega, by omega⟩]; omega
    rw [a1, a2, en, Int.toNat_natCast, Int.toNat_natCast, Int.toNat_natCast]
    refine ⟨⟨by omega, by omega⟩, fun h5 k5 => ⟨⟨by omega, by omega⟩, fun h6 k6 => ⟨⟨by omega, by omega⟩, fun h7 k7 h8 k8 => ?_⟩⟩⟩
    have hw0 : h7 332 0 = (Q.length : Int) := by rw [k7, ft_hs_j (by omega), k6, ft_hs_j (by omega), k5, ft_hs_j (by omega), t1]
    rw [hw0, inc1 (by omega)] at k8
    have gc : ∀ c, c ≠ 332 → h8 c = h4 c := fun c hc => by rw [k8, ft_hs_ne c hc, k7, ft_hs_ne c hc, k6, ft_hs_ne c hc, k5, ft_hs_ne c hc]
    have gj : ∀ j, j ≠ 0 → j ≠ 10 + 3 * Q.length → j ≠ 10 + 3 * Q.length + 1 → j ≠ 10 + 3 * Q.length + 2 → h8 332 j = h4 332 j := fun j a b c d => by rw [k8, ft_hs_j a, k7, ft_hs_j d, k6, ft_hs_j c, k5, ft_hs_j b]
    have v0 : h8 332 (10 + 3 * Q.length) = n9 := by rw [k8, ft_hs_j (by omega), k7, ft_hs_j (by omega), k6, ft_hs_j (by omega), k5, ft_hs_same]
    have v1 : h8 332 (10 + 3 * Q.length + 1) = (nX T 0 32 x).1 := by rw [k8, ft_hs_j (by omega), k7, ft_hs_j (by omega), k6, ft_hs_same]
    have v2 : h8 332 (10 + 3 * Q.length + 2) = (nX T 0 15 (wX T 5 (nX T 0 32 x).2)).1 := by rw [k8, ft_hs_j (by omega), k7, ft_hs_same]; rfl
    refine hk h8 (rrF_tr (rrF_d F4) ⟨fun c _ c2 => gc c c2, fun j _ => by rw [gc 309 (by omega)], fun j j1 j2 => gj j (by omega) (by omega) (by omega) (by omega)⟩) (rdI_fr (gc 309 (by omega)) x4') (fun p' hp => ?_)
    have hl : 0 ≤ (nX T 0 32 x).1 ∧ (nX T 0 32 x).1 ≤ 32 := by
      cases x with
      | inl e => simp [nX]
      | inr p =>
        simp only [nX]
        split
        · next c => exact (nmB_iff.mp c).2
        · exact ⟨Int.le_refl 0, by omega⟩
    have hlen : (Q ++ [(64 * pUn n9 + (nX T 0 32 x).1, (nX T 0 15 (wX T 5 (nX T 0 32 x).2)).1)]).length = Q.length + 1 := by rw [List.length_append, List.length_singleton]
    refine ⟨⟨by rw [k8, ft_hs_same, hlen], ?_, fun k hk => ?_⟩, by rw [gj 1 (by omega) (by omega) (by omega) (by omega)]; exact t4, ?_⟩
    · rw [hlen, ft_ml_snoc, v0, v1, v2]
      congr 1
      rw [ft_ml_mv (h := h4) (c := 332) (o := 10) (fun j hj => gj _ (by omega) (by omega) (by omega) (by omega))]
      exact t2
    · rw [hlen] at hk
      by_cases e : k = Q.length
      · rw [e, v1]; exact hl
      · rw [gj _ (by omega) (by omega) (by omega) (by omega)]
        exact t3 k (by omega)
    · have h40 := ft_gl_mv (h := h4) (h' := h8) (c := 332) (c' := 332) (o := 190) (o' := 190) (n := G.length) (fun j hj => gj _ (by omega) (by omega) (by omega) (by omega))
      rw [h40]
      exact t5
  · rw [hp] at x4'
    exact absurd x4'.1 c
theorem rX_bad (T : List Int) (e : Nat) : rX T (.inl e) = .inl e := rfl
theorem rX_good (T : List Int) (p : Nat) : rX T (.inr p) = if nmB T p 0 32 = true then (if tkK T (tkE T p) = 5 then (if nmB T (tkE T (tkE T p)) 0 15 = true then (if tkK T (tkE T (tkE T (tkE T p))) = 59 then .inr (tkE T (tkE T (tkE T (tkE T p)))) else .inl (tkS T (tkE T (tkE T (tkE T p))))) else .inl (tkS T (tkE T (tkE T p)))) else .inl (tkS T (tkE T p))) else .inl (tkS T p) := by
  unfold rX
  simp only [nX]
  by_cases c1 : nmB T p 0 32 = true
  · rw [if_pos c1, if_pos c1]
    simp only [wX]
    by_cases c2 : tkK T (tkE T p) = 5
    · rw [if_pos c2, if_pos c2]
      simp only [nX]
      by_cases c3 : nmB T (tkE T (tkE T p)) 0 15 = true
      · rw [if_pos c3, if_pos c3]
      · rw [if_neg c3, if_neg c3]
    · rw [if_neg c2, if_neg c2]
  · rw [if_neg c1, if_neg c1]
    rfl
theorem c_Mo_readsRoute {h : ftH} {T : List Int} (hB : rdB h T) {p : Nat} (hx : rdI h T (.inr p)) {Q G : List (Int × Int)} (ht : tdI h Q G) (h60 : Q.length ≤ 60) : ft_C k_Mo_readsRoute [.inr (.inr 309)] h (fun r h' => r = none ∧ rrF h h' ∧ ((∃ e, pRt T Q p = .inl e ∧ rdI h' T (.inl e)) ∨ ∃ Q' p', pRt T Q p = .inr (Q', p') ∧ rdI h' T (.inr p') ∧ tdI h' Q' G)) := by
  have hB0 := ht.1.1
  refine ft_enter (n := 4) rfl (Nat.le_of_ble_eq_true rfl) rfl (b_Mo_readsRoute_0 ⟨fun c => ?_, fun c => ⟨_, c_Mo_fails hx, fun h1 u1 => ?_⟩⟩)
  rotate_left
  · obtain ⟨-, f1, x1⟩ := u1
    refine b_Mo_readsRoute_15 ⟨fun q => ?_, fun _ => ⟨rfl, rrF_d f1, Or.inl ⟨tkS T p, ?_, x1⟩⟩⟩
    · have := x1.1
      omega
    · unfold pRt
      rw [if_pos (by omega)]
  have hq : Q.length < 60 := by omega
  have ep : pRt T Q p = match pAd T (tkE T p) with
      | .inl e => .inl e
      | .inr q => pRb T Q q.1 q.2 := by unfold pRt; rw [if_neg (by omega)]; cases pAd T (tkE T p) <;> rfl
  rw [ep]
  have fin : ∀ (g : ftH) (n9 : Int) (x : Nat ⊕ Nat), rrF h g → rdI g T x → tdI g Q G → ((∃ e, (match pAd T (tkE T p) with
      | .inl e => (.inl e : Nat ⊕ (List (Int × Int) × Nat))
      | .inr q => pRb T Q q.1 q.2) = .inl e ∧ rX T x = .inl e) ∨ ∃ Q' p', (match pAd T (tkE T p) with
      | .inl e => (.inl e : Nat ⊕ (List (Int × Int) × Nat))
      | .inr q => pRb T Q q.1 q.2) = .inr (Q', p') ∧ rX T x = .inr p' ∧ Q' = Q ++ [(64 * pUn n9 + (nX T 0 32 x).1, (nX T 0 15 (wX T 5 (nX T 0 32 x).2)).1)]) → ft_V k_Mo_readsRoute 110 [some (.inr (.inr 309)), some (.inl n9), none, none, none] [] g (fun r h' => r = none ∧ rrF h h' ∧ ((∃ e, (match pAd T (tkE T p) with
      | .inl e => (.inl e : Nat ⊕ (List (Int × Int) × Nat))
      | .inr q => pRb T Q q.1 q.2) = .inl e ∧ rdI h' T (.inl e)) ∨ ∃ Q' p', (match pAd T (tkE T p) with
      | .inl e => (.inl e : Nat ⊕ (List (Int × Int) × Nat))
      | .inr q => pRb T Q q.1 q.2) = .inr (Q', p') ∧ rdI h' T (.inr p') ∧ tdI h' Q' G)) := by
    intro g n9 x f xg tg hres
    refine v_Mo_rr110 (rrF_B f hB) xg tg hq (n9 := n9) (fun h' w2 w3 w4 => ?_)
    refine ⟨rfl, rrF_tr f w2, ?_⟩
    rcases hres with ⟨e, r1, r2⟩ | ⟨Q', p', r1, r2, r3⟩
    · rw [r2] at w3
      exact Or.inl ⟨e, r1, w3⟩
    · rw [r2] at w3
      rw [r3] at r1
      exact Or.inr ⟨_, p', r1, w3, w4 p' r2⟩
  refine b_Mo_readsRoute_15 ⟨fun _ => ⟨_, d_Mo_goesOn hB hx, fun h1 u1 => ?_⟩, fun q => absurd hx.1 q⟩
  obtain ⟨-, f1, x1⟩ := u1
  refine ⟨_, c_Mo_readsBytes (rdF_B f1 hB) x1, fun z5 h2 _ u2 => ?_⟩
  obtain ⟨r2, f2, x2⟩ := u2
  cases r2
  have F2 := rdF_tr f1 f2
  refine ⟨_, c_Mo_needsNumber (rdF_B F2 hB) x2, fun z8 h3 _ u3 n9 e9 => ?_⟩
  obtain ⟨r3, f3, x3⟩ := u3
  cases r3
  have F3 := rdF_tr F2 f3
  refine ⟨_, c_Mo_needsSign (rdF_B F3 hB) x3 (Or.inr (Or.inl rfl)), fun h4 u4 => ?_⟩
  obtain ⟨-, f4, x4⟩ := u4
  have F4 := rdF_tr F3 f4
  have t4 := tdI_fr (F4.1 332 (by omega)) ht
  have D4 := rrF_d F4
  obtain ⟨a1, a2⟩ := bX_pAd T (tkE T p)
  have br := bX_rng T 3 0 (.inr (tkE T p)) 0 (by omega) (by omega)
  have nr := nX_rng T (bX T 3 0 (.inr (tkE T p))).2
  cases hA : pAd T (tkE T p) with
  | inl e =>
    have a1 := a1 e hA
    rw [a1] at x4
    rw [hA] at fin
    refine ⟨fun _ => fin h4 n9 (.inl e) D4 x4 t4 (Or.inl ⟨e, rfl, rfl⟩), fun q => ?_⟩
    have := x4.1
    omega
  | inr wp =>
    obtain ⟨v, p4⟩ := wp
    obtain ⟨b1, b2, b3⟩ := a2 v p4 hA
    rw [hA] at fin
    have e3 : nX T 0 255 (bX T 3 0 (.inr (tkE T p))).2 = (tkN T p4, .inr (tkE T p4)) := by rw [b1]; simp only [nX]; rw [if_pos b2]
    rw [e3] at x4 e9 nr
    simp only at e9 nr
    have ev : pUn n9 = v := by rw [e9, ft_or8 ⟨br.1, by have := br.2; simpa using this⟩ nr, b3]
    have es : pRb T Q v p4 = (match wX T 47 (.inr (tkE T p4)) with
        | .inl e => .inl e
        | .inr p6 => if (nmB T p6 0 32 = true ∧ v % pSz (tkN T p6) = 0) ∧ ¬ hasK Q (64 * v + tkN T p6) = true then (match rX T (.inr p6) with
          | .inl e => .inl e
          | .inr p' => .inr (Q ++ [(64 * v + tkN T p6, tkN T (tkE T (tkE T p6)))], p')) else .inl (tkS T p6)) := by
      unfold pRb
      simp only [wX]
      by_cases c1 : tkK T (tkE T p4) = 47
      · rw [if_pos c1, if_pos c1]
        simp only
        by_cases c2 : (nmB T (tkE T (tkE T p4)) 0 32 = true ∧ v % pSz (tkN T (tkE T (tkE T p4))) = 0) ∧ ¬ hasK Q (64 * v + tkN T (tkE T (tkE T p4))) = true
        · rw [if_pos c2, if_pos c2, rX_good, if_pos c2.1.1]
          by_cases c3 : tkK T (tkE T (tkE T (tkE T p4))) = 5
          · rw [if_pos c3, if_pos c3]
            by_cases c4 : nmB T (tkE T (tkE T (tkE T (tkE T p4)))) 0 15 = true
            · rw [if_pos c4, if_pos c4]
              by_cases c5 : tkK T (tkE T (tkE T (tkE T (tkE T (tkE T p4))))) = 59
              · rw [if_pos c5, if_pos c5]
              · rw [if_neg c5, if_neg c5]
            · rw [if_neg c4, if_neg c4]
          · rw [if_neg c3, if_neg c3]
        · rw [if_neg c2, if_neg c2]
      · rw [if_neg c1, if_neg c1]
    have fin2 : ∀ (g : ftH) (n9 : Int) (x : Nat ⊕ Nat), rrF h g → rdI g T x → tdI g Q G → ((∃ e, pRb T Q v p4 = .inl e ∧ rX T x = .inl e) ∨ ∃ Q' p', pRb T Q v p4 = .inr (Q', p') ∧ rX T x = .inr p' ∧ Q' = Q ++ [(64 * pUn n9 + (nX T 0 32 x).1, (nX T 0 15 (wX T 5 (nX T 0 32 x).2)).1)]) → ft_V k_Mo_readsRoute 110 [some (.inr (.inr 309)), some (.inl n9), none, none, none] [] g (fun r h' => r = none ∧ rrF h h' ∧ ((∃ e, pRb T Q v p4 = .inl e ∧ rdI h' T (.inl e)) ∨ ∃ Q' p', pRb T Q v p4 = .inr (Q', p') ∧ rdI h' T (.inr p') ∧ tdI h' Q' G)) := fin
    show _
    cases hW : wX T 47 (.inr (tkE T p4)) with
    | inl e =>
      rw [hW] at x4 es
      refine ⟨fun _ => fin2 h4 n9 (.inl e) D4 x4 t4 (Or.inl ⟨e, es, rfl⟩), fun q => ?_⟩
      have := x4.1
      omega
    | inr p6 =>
      rw [hW] at x4 es
      simp only at es
      have hk := tmK_num x4.2.2.2.2
      have stay : (¬ nmB T p6 0 32 = true ∨ ((nmB T p6 0 32 = true ∧ v % pSz (tkN T p6) = 0) ∧ ¬ hasK Q (64 * v + tkN T p6) = true)) → ∀ g : ftH, g = h4 → ft_V k_Mo_readsRoute 110 [some (.inr (.inr 309)), some (.inl n9), none, none, none] [] g (fun r h' => r = none ∧ rrF h h' ∧ ((∃ e, pRb T Q v p4 = .inl e ∧ rdI h' T (.inl e)) ∨ ∃ Q' p', pRb T Q v p4 = .inr (Q', p') ∧ rdI h' T (.inr p') ∧ tdI h' Q' G)) := fun hc g eg => by
        rw [eg]
        refine fin2 h4 n9 (.inr p6) D4 x4 t4 ?_
        rcases hc with c | c
        · rw [if_neg (fun q => c q.1.1)] at es
          refine Or.inl ⟨_, es, ?_⟩
          rw [rX_good, if_neg c]
        · rw [if_pos c] at es
          cases hr : rX T (.inr p6) with
          | inl e =>
            rw [hr] at es
            exact Or.inl ⟨e, es, rfl⟩
          | inr p' =>
            rw [hr] at es
            refine Or.inr ⟨_, p', es, rfl, ?_⟩
            have n1 : nX T 0 32 (.inr p6) = (tkN T p6, .inr (tkE T p6)) := by simp only [nX]; rw [if_pos c.1.1]
            have n2 : (nX T 0 15 (wX T 5 (nX T 0 32 (.inr p6)).2)).1 = tkN T (tkE T (tkE T p6)) := by
              rw [n1]
              rw [rX_good, if_pos c.1.1] at hr
              simp only [wX]
              by_cases c3 : tkK T (tkE T p6) = 5
              · rw [if_pos c3] at hr ⊢
                by_cases c4 : nmB T (tkE T (tkE T p6)) 0 15 = true
                · simp only [nX]; rw [if_pos c4]
                · rw [if_neg c4] at hr; cases hr
              · rw [if_neg c3] at hr; cases hr
            rw [n2, n1, ev]
      have fail : nmB T p6 0 32 = true → ¬ ((nmB T p6 0 32 = true ∧ v % pSz (tkN T p6) = 0) ∧ ¬ hasK Q (64 * v + tkN T p6) = true) → ∀ g : ftH, g = h4 → ft_V k_Mo_readsRoute 106 [some (.inr (.inr 309)), some (.inl n9), none, none, none] [] g (fun r h' => r = none ∧ rrF h h' ∧ ((∃ e, pRb T Q v p4 = .inl e ∧ rdI h' T (.inl e)) ∨ ∃ Q' p', pRb T Q v p4 = .inr (Q', p') ∧ rdI h' T (.inr p') ∧ tdI h' Q' G)) := fun _ hc g eg => by
        rw [eg]
        refine b_Mo_readsRoute_106 ⟨_, c_Mo_fails x4, fun h5 u5 => ?_⟩
        rw [if_neg hc] at es
        exact fin2 h5 n9 (.inl (tkS T p6)) (rrF_tr D4 (rrF_d u5.2.1)) u5.2.2 (tdI_fr (u5.2.1.1 332 (by omega)) t4) (Or.inl ⟨_, es, rfl⟩)
      refine ⟨fun q => absurd x4.1 q, fun _ => ⟨fun q => stay (Or.inl (fun n => q (hk.1.mpr (nmB_iff.mp n).1))) h4 rfl, fun q => ?_⟩⟩
      have k2 := hk.1.mp q
      rw [hk.2 k2]
      refine ⟨fun q1 => stay (Or.inl (fun n => q1 (nmB_iff.mp n).2)) h4 rfl, fun q1 => ?_⟩
      have nb : nmB T p6 0 32 = true := nmB_iff.mpr ⟨k2, q1⟩
      rw [ev]
      refine ⟨fun q2 => fail nb (fun z => q2 ⟨q1, z.1.2⟩) h4 rfl, fun q2 => ⟨_, c_Mo_isTold t4 h60 q1, fun z18 h5 _ u5 => ?_⟩⟩
      obtain ⟨r5, rfl⟩ := u5
      cases r5
      rw [ev]
      refine ⟨fun q3 => stay (Or.inr ⟨⟨nb, q2.2⟩, ft_if0.mp q3⟩) h5 rfl, fun q3 => fail nb (fun z => z.2 (ft_if1.mp q3)) h5 rfl⟩
