/-! THE PLAN OF SYNC, THE CLASS -/
def plA (h : ftH) (n : Nat) : List ftX := (List.range n).map fun i => (h 293 i, h 290 i, h 291 i, h 292 i)
def plI (h : ftH) (P : List ftX) : Prop := h 289 4 = (P.length : Int) ∧ plA h P.length = P
theorem plA_get {h : ftH} {n i : Nat} (hi : i < n) : (plA h n)[i]? = some (h 293 i, h 290 i, h 291 i, h 292 i) := by simp [plA, List.getElem?_range hi]
theorem plI_at {h : ftH} {P : List ftX} (hP : plI h P) {i : Nat} (hi : i < P.length) : P[i]? = some (h 293 i, h 290 i, h 291 i, h 292 i) := by
  have h1 := plA_get (h := h) hi
  rw [hP.2] at h1
  exact h1
theorem insR_at {x : ftX} : ∀ {l : List ftX} {k : Nat}, k ≤ l.length → (∀ i y, i < k → l[i]? = some y → ¬ x.1 < y.1) → (∀ y, l[k]? = some y → x.1 < y.1) → insR x l = l.take k ++ x :: l.drop k
  | [], 0, _, _, _ => rfl
  | y :: l, 0, _, _, h2 => by
    rw [insR, if_pos (h2 y rfl)]
    rfl
  | [], k + 1, h, _, _ => by simp at h
  | y :: l, k + 1, h, h1, h2 => by
    rw [insR, if_neg (h1 0 y (by omega) rfl), insR_at (l := l) (k := k) (by simpa using h) (fun i z hi hz => h1 (i + 1) z (by omega) (by rw [List.getElem?_cons_succ]; exact hz)) (fun z hz => h2 z (by rw [List.getElem?_cons_succ]; exact hz))]
    rfl
theorem v_SP_add {h0 : ftH} {P : List ftX} (hP : plI h0 P) (hs : P.Pairwise ltX) (hl : P.length < 140) {r k kd a : Int} {R : Option ftV → ftH → Prop} (hk : ∀ h : ftH, plI h (insR (r, k, kd, a) P) → (∀ c, c < 289 ∨ 294 ≤ c → h c = h0 c) → (∀ j, j ≠ 4 → h 289 j = h0 289 j) → R none h) :
    ∀ (m : Nat) (h : ftH), m ≤ P.length → (∀ c, c < 290 ∨ 294 ≤ c → h c = h0 c) → (∀ c, 290 ≤ c → c < 294 → (∀ i, i < m → h c i = h0 c i) ∧ (∀ i, m < i → i ≤ P.length → h c i = h0 c (i - 1))) → (∀ i y, m ≤ i → P[i]? = some y → r < y.1) → ft_V k_SP_add 17 [some (.inr (.inr 289)), some (.inl r), some (.inr (.inl k)), none, some (.inl kd), some (.inl a), some (.inl (m : Int))] [] h R := by
  have fin : ∀ (m : Nat) (h h1 h2 h3 h4 h5 : ftH), m ≤ P.length → (∀ c, c < 290 ∨ 294 ≤ c → h c = h0 c) → (∀ c, 290 ≤ c → c < 294 → (∀ i, i < m → h c i = h0 c i) ∧ (∀ i, m < i → i ≤ P.length → h c i = h0 c (i - 1))) → (∀ i y, m ≤ i → P[i]? = some y → r < y.1) → (∀ i y, i < m → P[i]? = some y → ¬ r < y.1) → h1 = ft_hs h 293 m r → h2 = ft_hs h1 290 m k → h3 = ft_hs h2 291 m kd → h4 = ft_hs h3 292 m a → h5 = ft_hs h4 289 4 (ft_add (h4 289 4) 1) → R none h5 := by
    intro m h h1 h2 h3 h4 h5 hm f g g1 g2 e1 e2 e3 e4 e5
    have q9 : h4 289 = h0 289 := by rw [e4, ft_hs_ne _ (by omega), e3, ft_hs_ne _ (by omega), e2, ft_hs_ne _ (by omega), e1, ft_hs_ne _ (by omega), f 289 (by omega)]
    rw [q9, hP.1, inc1 (by omega)] at e5
    have y3 : h5 293 = h1 293 := by rw [e5, ft_hs_ne _ (by omega), e4, ft_hs_ne _ (by omega), e3, ft_hs_ne _ (by omega), e2, ft_hs_ne _ (by omega)]
    have y0 : h5 290 = h2 290 := by rw [e5, ft_hs_ne _ (by omega), e4, ft_hs_ne _ (by omega), e3, ft_hs_ne _ (by omega)]
    have y1 : h5 291 = h3 291 := by rw [e5, ft_hs_ne _ (by omega), e4, ft_hs_ne _ (by omega)]
    have y2 : h5 292 = h4 292 := by rw [e5, ft_hs_ne _ (by omega)]
    have same : ∀ i, i ≠ m → h5 293 i = h 293 i ∧ h5 290 i = h 290 i ∧ h5 291 i = h 291 i ∧ h5 292 i = h 292 i := fun i hi => by
      rw [y3, y0, y1, y2, e1, ft_hs_j hi, e2, ft_hs_j hi, e3, ft_hs_j hi, e4, ft_hs_j hi, e1, ft_hs_ne 290 (by omega), e2, ft_hs_ne 291 (by omega), e1, ft_hs_ne 291 (by omega), e3, ft_hs_ne 292 (by omega), e2, ft_hs_ne 292 (by omega), e1, ft_hs_ne 292 (by omega)]
      exact ⟨rfl, rfl, rfl, rfl⟩
    have new : h5 293 m = r ∧ h5 290 m = k ∧ h5 291 m = kd ∧ h5 292 m = a := by
      rw [y3, y0, y1, y2, e1, ft_hs_same, e2, ft_hs_same, e3, ft_hs_same, e4, ft_hs_same]
      exact ⟨rfl, rfl, rfl, rfl⟩
    have hins := insR_at (x := (r, k, kd, a)) hm (fun i y hi hy => g2 i y hi hy) (fun y hy => g1 m y (Nat.le_refl m) hy)
    have hlen : (insR (r, k, kd, a) P).length = P.length + 1 := by
      rw [hins, List.length_append, List.length_cons, List.length_take, List.length_drop]
      omega
    refine hk h5 ⟨by rw [hlen, e5, ft_hs_same], ?_⟩ (fun c hc => ?_) (fun j hj => ?_)
    · rw [hlen]
      apply List.ext_getElem?
      intro i
      by_cases c : i < P.length + 1
      · rw [plA_get c, hins]
        rcases Nat.lt_trichotomy i m with q | q | q
        · have s := same i (by omega)
          rw [List.getElem?_append_left (by rw [List.length_take]; omega), List.getElem?_take_of_lt q, plI_at hP (show i < P.length by omega), s.1, s.2.1, s.2.2.1, s.2.2.2, (g 293 (by omega) (by omega)).1 i q, (g 290 (by omega) (by omega)).1 i q, (g 291 (by omega) (by omega)).1 i q, (g 292 (by omega) (by omega)).1 i q]
        · subst q
          rw [List.getElem?_append_right (by rw [List.length_take]; omega), List.length_take, show i - min i P.length = 0 by omega, new.1, new.2.1, new.2.2.1, new.2.2.2]
          rfl
        · have s := same i (by omega)
          rw [List.getElem?_append_right (by rw [List.length_take]; omega), List.length_take, show i - min m P.length = (i - 1 - m) + 1 by omega, List.getElem?_cons_succ, List.getElem?_drop, show m + (i - 1 - m) = i - 1 by omega, plI_at hP (show i - 1 < P.length by omega), s.1, s.2.1, s.2.2.1, s.2.2.2, (g 293 (by omega) (by omega)).2 i q (by omega), (g 290 (by omega) (by omega)).2 i q (by omega), (g 291 (by omega) (by omega)).2 i q (by omega), (g 292 (by omega) (by omega)).2 i q (by omega)]
      · rw [List.getElem?_eq_none (by simp [plA]; omega), List.getElem?_eq_none (by omega)]
    · rw [e5, ft_hs_ne c (by omega), e4, ft_hs_ne c (by omega), e3, ft_hs_ne c (by omega), e2, ft_hs_ne c (by omega), e1, ft_hs_ne c (by omega), f c (by omega)]
    · rw [e5, ft_hs_j hj, q9]
  intro m
  induction m with
  | zero =>
    intro h hm f g g1
    exact b_SP_add_17 ⟨fun _ => ⟨⟨by omega, by omega⟩, fun h1 e1 => ⟨⟨by omega, by omega⟩, fun h2 e2 => ⟨⟨by omega, by omega⟩, fun h3 e3 => ⟨⟨by omega, by omega⟩, fun h4 e4 h5 e5 => fin 0 h h1 h2 h3 h4 h5 hm f g g1 (fun i y hi => absurd hi (Nat.not_lt_zero i)) e1 e2 e3 e4 e5⟩⟩⟩⟩, fun c => absurd (by omega) c⟩
  | succ m ih =>
    intro h hm f g g1
    have hmP : m < P.length := by omega
    have hget := plI_at hP hmP
    refine b_SP_add_17 ⟨fun c => absurd c (by omega), fun _ => ?_⟩
    rw [ft_sub_eq ⟨by omega, by omega⟩, show ((m + 1 : Nat) : Int) - 1 = (m : Int) by push_cast; omega, Int.toNat_natCast, Int.toNat_natCast, dec1 (by omega), (g 293 (by omega) (by omega)).1 m (by omega)]
    refine ⟨⟨by omega, by omega⟩, fun c => ⟨⟨by omega, by omega⟩, fun h1 e1 => ⟨⟨by omega, by omega⟩, fun h2 e2 => ⟨⟨by omega, by omega⟩, fun h3 e3 => ⟨⟨by omega, by omega⟩, fun h4 e4 h5 e5 => fin (m + 1) h h1 h2 h3 h4 h5 hm f g g1 (fun i y hi hy => ?_) e1 e2 e3 e4 e5⟩⟩⟩⟩, fun c => ⟨⟨by omega, by omega⟩, ⟨by omega, by omega⟩, fun h11 e11 => ⟨⟨by omega, by omega⟩, ⟨by omega, by omega⟩, fun h12 e12 => ⟨⟨by omega, by omega⟩, ⟨by omega, by omega⟩, fun h13 e13 => ⟨⟨by omega, by omega⟩, ⟨by omega, by omega⟩, fun h14 e14 => ?_⟩⟩⟩⟩⟩
    · rcases Nat.lt_or_eq_of_le (show i ≤ m by omega) with q | q
      · have hp : ltX y (h0 293 m, h0 290 m, h0 291 m, h0 292 m) := by
          obtain ⟨i1, i2⟩ := List.getElem?_eq_some_iff.mp hy
          obtain ⟨j1, j2⟩ := List.getElem?_eq_some_iff.mp hget
          rw [← i2, ← j2]
          exact List.pairwise_iff_getElem.mp hs i m i1 j1 q
        unfold ltX at hp
        simp only at hp
        omega
      · subst q
        rw [hget] at hy
        rw [← Option.some.inj hy]
        simp only
        omega
    · have x11 : ∀ c, c ≠ 293 → h11 c = h c := fun c hc => by rw [e11]; exact ft_hs_ne c hc
      have x12 : ∀ c, c ≠ 290 → h12 c = h11 c := fun c hc => by rw [e12]; exact ft_hs_ne c hc
      have x13 : ∀ c, c ≠ 291 → h13 c = h12 c := fun c hc => by rw [e13]; exact ft_hs_ne c hc
      have x14 : ∀ c, c ≠ 292 → h14 c = h13 c := fun c hc => by rw [e14]; exact ft_hs_ne c hc
      rw [x11 290 (by omega)] at e12
      rw [x12 291 (by omega), x11 291 (by omega)] at e13
      rw [x13 292 (by omega), x12 292 (by omega), x11 292 (by omega)] at e14
      have w3 : h14 293 = h11 293 := by rw [x14 _ (by omega), x13 _ (by omega), x12 _ (by omega)]
      have w0 : h14 290 = h12 290 := by rw [x14 _ (by omega), x13 _ (by omega)]
      have w1 : h14 291 = h13 291 := x14 _ (by omega)
      have cell : ∀ c, 290 ≤ c → c < 294 → (∀ i, i ≠ m + 1 → h14 c i = h c i) ∧ h14 c (m + 1) = h c m := fun c c1 c2 => by
        have hc : c = 290 ∨ c = 291 ∨ c = 292 ∨ c = 293 := by omega
        rcases hc with e | e | e | e <;> subst e
        · rw [w0, e12]; exact ⟨fun i hi => by rw [ft_hs_j hi, x11 290 (by omega)], ft_hs_same⟩
        · rw [w1, e13]; exact ⟨fun i hi => by rw [ft_hs_j hi, x12 291 (by omega), x11 291 (by omega)], ft_hs_same⟩
        · rw [e14]; exact ⟨fun i hi => by rw [ft_hs_j hi, x13 292 (by omega), x12 292 (by omega), x11 292 (by omega)], ft_hs_same⟩
        · rw [w3, e11]; exact ⟨fun i hi => by rw [ft_hs_j hi], by rw [ft_hs_same, (g 293 (by omega) (by omega)).1 m (by omega)]⟩
      refine ih h14 (by omega) (fun c hc => by rw [x14 c (by omega), x13 c (by omega), x12 c (by omega), x11 c (by omega), f c hc]) (fun c c1 c2 => ⟨fun i hi => ?_, fun i i1 i2 => ?_⟩) (fun i y hi hy => ?_)
      · rw [(cell c c1 c2).1 i (by omega)]
        exact (g c c1 c2).1 i (by omega)
      · by_cases q : i = m + 1
        · subst q
          rw [(cell c c1 c2).2, (g c c1 c2).1 m (by omega)]
          rfl
        · rw [(cell c c1 c2).1 i q]
          exact (g c c1 c2).2 i (by omega) i2
      · by_cases q : i = m
        · subst q
          rw [hget] at hy
          rw [← Option.some.inj hy]
          simp only
          omega
        · exact g1 i y (by omega) hy
theorem c_SP_add {h : ftH} {P : List ftX} (hP : plI h P) (hs : P.Pairwise ltX) (hl : P.length < 140) {r k kd a : Int} : ft_C k_SP_add [.inr (.inr 289), .inl r, .inr (.inl k), .inl kd, .inl a] h (fun q h' => q = none ∧ plI h' (insR (r, k, kd, a) P) ∧ (∀ c, c < 289 ∨ 294 ≤ c → h' c = h c) ∧ ∀ j, j ≠ 4 → h' 289 j = h 289 j) := by
  refine ft_enter (n := 1) rfl (Nat.le_of_ble_eq_true rfl) rfl (b_SP_add_0 ⟨fun _ n1 e1 => ?_, fun c => absurd (by rw [hP.1]; omega) c⟩)
  rw [e1, hP.1]
  exact v_SP_add hP hs hl (fun g k1 k2 k3 => ⟨rfl, k1, k2, k3⟩) P.length h (Nat.le_refl _) (fun c _ => rfl) (fun c _ _ => ⟨fun i _ => rfl, fun i i1 i2 => by omega⟩) (fun i y hi hy => by
    have := (List.getElem?_eq_some_iff.mp hy).1
    omega)
theorem idx_has {a : Nat} {h : ftH} {L : List (Int × Int)} (hs : ft_ps h a) (e : ft_pl h a = L) {k : Int} {r : Option ftV} (hr : (r = some (.inl (-1)) ∧ ∀ j : Nat, (j : Int) < h a 2 → h (a + 1) j ≠ k) ∨ ∃ p : Nat, r = some (.inl (p : Int)) ∧ (p : Int) < h a 2 ∧ h (a + 1) p = k) : (r = some (.inl (-1)) ∧ ¬ hasK L k = true) ∨ ∃ p : Nat, r = some (.inl (p : Int)) ∧ p < L.length ∧ L[p]? = some (k, h (a + 2) p) ∧ hasK L k = true := by
  have hl := pl_len e hs.1.1
  rcases hr with ⟨r1, r2⟩ | ⟨p, r1, r2, r3⟩
  · refine Or.inl ⟨r1, fun q => ?_⟩
    obtain ⟨x, x1, x2⟩ := hasK_iff.mp q
    rw [← e] at x1
    exact pl_ne r2 x x1 x2
  · have hg := pl_at e (i := (p : Int)) (by omega) r2
    rw [Int.toNat_natCast, r3] at hg
    exact Or.inr ⟨p, r1, by omega, hg, hasK_iff.mpr ⟨_, List.mem_of_getElem? hg, rfl⟩⟩
theorem tog_take {H T : List (Int × Int)} {i : Nat} (hi : i < T.length) : togC H (T.take (i + 1)) = togC H (T.take i) + if hasK H (kAt T i) = true then 0 else 1 := by
  unfold togC
  rw [take_succ_get T i _ (kAt_get hi), List.countP_append, List.countP_cons, List.countP_nil]
  simp only
  cases hasK H (kAt T i) <;> simp <;> omega
theorem tog_le {H T : List (Int × Int)} : togC H T ≤ H.length + T.length := by
  unfold togC
  have := List.countP_le_length (p := fun t : Int × Int => !hasK H t.1) (l := T)
  omega
theorem c_SP_tog {a b : Nat} (ha : ft_sh a = some (.inl 4)) (hb : ft_sh b = some (.inl 4)) {h : ftH} {H T : List (Int × Int)} (pH : ft_ps h a) (eH : ft_pl h a = H) (pT : ft_ps h b) (eT : ft_pl h b = T) : ft_C k_SP_countTogether [.inr (.inr a), .inr (.inr b)] h (fun r h' => r = some (.inl (togC H T : Int)) ∧ h' = h) := by
  have hHl := pl_len eH pH.1.1
  have hTl := pl_len eT pT.1.1
  have l1 := ft_ln_ps ha
  have l2 := ft_ln_ps hb
  have z1 := pH.1.2
  have z2 := pT.1.2
  refine ft_enter (n := 2) rfl (Nat.le_of_ble_eq_true rfl) rfl (b_SP_countTogether_0 ha hb (fun n1 e1 => ?_))
  have loop : ∀ m i : Nat, i + m = T.length → ft_V k_SP_countTogether 7 [some (.inr (.inr a)), some (.inr (.inr b)), some (.inl (togC H (T.take i) : Int)), some (.inl (i : Int))] [] h (fun r h' => r = some (.inl (togC H T : Int)) ∧ h' = h) := by
    intro m
    induction m with
    | zero =>
      intro i hm
      refine b_SP_countTogether_7 ha hb ⟨fun _ => ⟨?_, rfl⟩, fun c => absurd (by omega) c⟩
      rw [List.take_of_length_le (by omega)]
    | succ m ih =>
      intro i hm
      have hi := ih (i + 1) (by omega)
      rw [tog_take (by omega)] at hi
      have hT1 := pl_at eT (i := (i : Int)) (by omega) (by omega)
      rw [Int.toNat_natCast] at hT1
      have hb1 : togC H (T.take i) ≤ 160 := by
        have := tog_le (H := H) (T := T.take i)
        rw [List.length_take] at this
        omega
      refine b_SP_countTogether_7 ha hb ⟨fun c => absurd c (by omega), fun _ => ⟨⟨by omega, by omega⟩, _, c_PS_indexOf ha pH, fun z h1 _ hw => ?_⟩⟩
      obtain ⟨rfl, hw⟩ := hw
      have hkk : kAt T i = h1 (b + 1) i := (kAt_of hT1).1
      rw [Int.toNat_natCast, ← hkk] at hw
      rw [inc1 (by omega), inc1 (by omega)]
      rcases idx_has pH eH hw with ⟨q1, q2⟩ | ⟨p, q1, q2, q3, q4⟩
      · have hz := injI q1
        subst hz
        rw [if_neg q2] at hi
        exact ⟨fun c => by omega, fun _ => hi⟩
      · have hz := injI q1
        subst hz
        rw [if_pos q4, Nat.add_zero] at hi
        exact ⟨fun _ => hi, fun c => by omega⟩
  rw [e1, ← hHl]
  have := loop T.length 0 (by omega)
  exact this
