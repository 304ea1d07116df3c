/-! READING THE TAPE: the reference's load -/
theorem pRt_ok {T : List Int} {Q Q' : List (Int × Int)} {p p' : Nat} (hp : p ≤ T.length) (hq : qOk Q) (h : pRt T Q p = .inr (Q', p')) : qOk Q' ∧ p' ≤ T.length := by
  unfold pRt at h
  split at h
  · cases h
  next c0 =>
  cases hA : pAd T (tkE T p) with
  | inl e => rw [hA] at h; cases h
  | inr wp =>
    obtain ⟨v, p4⟩ := wp
    rw [hA] at h
    obtain ⟨hv, p4l⟩ := pAd_rng (tkE_le2 hp) hA
    simp only at h
    unfold pRb at h
    split at h
    · split at h
      · next c2 =>
        split at h
        · split at h
          · next c4 =>
            split at h
            · cases h
              have n6 := nmB_iff.mp c2.1.1
              have n8 := nmB_iff.mp c4
              refine ⟨qOk_snoc hq ⟨⟨by omega, by omega⟩, by omega, ?_⟩ n8.2 c2.2 (by omega), tkE_le2 (tkE_le2 (tkE_le2 (tkE_le2 (tkE_le2 (tkE_le2 p4l)))))⟩
              rw [show (64 * v + tkN T (tkE T (tkE T p4))) / 64 = v by omega, show (64 * v + tkN T (tkE T (tkE T p4))) % 64 = tkN T (tkE T (tkE T p4)) by omega]
              exact c2.1.2
            · cases h
          · cases h
        · cases h
      · cases h
    · cases h
theorem pSe_ok {T : List Int} {G G' : List (Int × Int)} {p p' : Nat} (hp : p ≤ T.length) (hg : gOk G) (h : pSe T G p = .inr (G', p')) : gOk G' ∧ p' ≤ T.length := by
  unfold pSe at h
  split at h
  · cases h
  next c0 =>
  cases hA : pAd T (tkE T p) with
  | inl e => rw [hA] at h; cases h
  | inr wp =>
    obtain ⟨v, p4⟩ := wp
    rw [hA] at h
    obtain ⟨hv, p4l⟩ := pAd_rng (tkE_le2 hp) hA
    simp only at h
    unfold pSb at h
    split at h
    · cases h
    · split at h
      · split at h
        · next c4 =>
          split at h
          · cases h
            have n6 := nmB_iff.mp c4
            refine ⟨⟨by rw [List.length_append, List.length_singleton]; omega, fun q hq => ?_⟩, tkE_le2 (tkE_le2 (tkE_le2 (tkE_le2 p4l)))⟩
            rcases List.mem_append.mp hq with hq | hq
            · exact hg.2 q hq
            · rw [List.mem_singleton] at hq
              rw [hq]
              exact ⟨hv, n6.2.1, by simp only; omega⟩
          · cases h
        · cases h
      · cases h
theorem insF_take {Q : List (Int × Int)} {i : Nat} {q : Int × Int} (h : Q[i]? = some q) : insF (Q.take (i + 1)) = insK q.1 q.2 (insF (Q.take i)) := by
  rw [take_succ_get Q i q h, insF_snoc]
theorem qOk_take {Q : List (Int × Int)} (h : qOk Q) (i : Nat) : qOk (Q.take i) := ⟨fun q hq => h.1 q (List.mem_of_mem_take hq), h.2.1.sublist (List.take_sublist i Q), by have := List.length_take_le i Q; have := h.2.2; rw [List.length_take]; omega⟩
theorem v_Mo_ld181 {h0 : ftH} {Q G : List (Int × Int)} (ht : tdI h0 Q G) (hq : qOk Q) {R : Option ftV → ftH → Prop} (hk : ∀ h', (∀ c, c ≠ 309 → c ≠ 310 → h' c = h0 c) → (∀ j, j ≠ 4 → j ≠ 20 → h' 309 j = h0 309 j) → h' 309 4 = 0 → h' 309 20 = 0 → (∀ j, (1 ≤ j ∧ j < 10) ∨ 190 ≤ j → h' 310 j = h0 310 j) → h' 310 0 = (Q.length : Int) → ft_ml h' 310 10 Q.length = insF Q → (∀ k, k < Q.length → 0 ≤ h' 310 (10 + 3 * k + 1) ∧ h' 310 (10 + 3 * k + 1) ≤ 32) → R (some (.inl (Q.length : Int))) h') : ∀ (m i : Nat) (g : ftH), i + m = Q.length → (∀ c, c ≠ 310 → g c = h0 c) → (∀ j, (1 ≤ j ∧ j < 10) ∨ 190 ≤ j → g 310 j = h0 310 j) → g 310 0 = (i : Int) → ft_ml g 310 10 i = insF (Q.take i) → (∀ k, k < i → 0 ≤ g 310 (10 + 3 * k + 1) ∧ g 310 (10 + 3 * k + 1) ≤ 32) → ft_V k_Mo_load 181 [some (.inr (.inr 309)), some (.inl (i : Int))] [] g R := by
  have h60 := hq.2.2
  intro m
  induction m with
  | zero =>
    intro i g hm f fj e0 em el
    have hi : i = Q.length := by omega
    subst hi
    rw [List.take_of_length_le (Nat.le_refl _)] at em
    refine b_Mo_load_181 ⟨fun _ h1 k1 h2 k2 => ?_, fun c => absurd (by rw [f 332 (by omega), ht.1.1]; omega) c⟩
    have g2 : ∀ c, c ≠ 309 → h2 c = g c := fun c hc => by rw [k2, ft_hs_ne c hc, k1, ft_hs_ne c hc]
    have eq : h2 310 0 = (Q.length : Int) := by rw [g2 310 (by omega)]; exact e0
    rw [eq]
    refine hk h2 (fun c c1 c2 => by rw [g2 c c1, f c c2]) (fun j j1 j2 => by rw [k2, ft_hs_j j2, k1, ft_hs_j j1, f 309 (by omega)]) (by rw [k2, ft_hs_j (by omega), k1, ft_hs_same]) (by rw [k2, ft_hs_same]) (fun j hj => by rw [g2 310 (by omega), fj j hj]) eq ?_ (fun k hk' => by rw [g2 310 (by omega)]; exact el k hk')
    unfold ft_ml at em ⊢
    rw [g2 310 (by omega)]
    exact em
  | succ m ih =>
    intro i g hm f fj e0 em el
    have hi : i < Q.length := by omega
    have hg := ft_ml_get (h := h0) (c := 332) (o := 10) hi
    rw [ht.1.2.1] at hg
    have h3 := ht.1.2.2 i hi
    have qt := qOk_take hq i
    have hin := insF_ok qt
    have e1 : ft_add 10 (ft_mul 3 (i : Int)) = ((10 + 3 * i : Nat) : Int) := by
      rw [ft_mul_eq ⟨by omega, by omega⟩, ft_add_eq ⟨by omega, by omega⟩]
      omega
    have e2 : ft_add ((10 + 3 * i : Nat) : Int) 1 = ((10 + 3 * i + 1 : Nat) : Int) := inc1 (by omega)
    have e3 : ft_add ((10 + 3 * i : Nat) : Int) 2 = ((10 + 3 * i + 2 : Nat) : Int) := by rw [ft_add_eq ⟨by omega, by omega⟩]; omega
    refine b_Mo_load_181 ⟨fun c => absurd c (by rw [f 332 (by omega), ht.1.1]; omega), fun _ => ?_⟩
    rw [e1, e2, e3, Int.toNat_natCast, Int.toNat_natCast, Int.toNat_natCast, f 332 (by omega), e0]
    refine ⟨⟨by omega, by omega⟩, ⟨by omega, by omega⟩, ⟨by omega, by omega⟩, ?_⟩
    refine ⟨_, c_Mo_putsIn (o := 10) (n := i) (by omega) el h3 (by rw [em]; exact hin.1.2) (fun q hq' => ?_), fun h1 w h2 k2 => ?_⟩
    · rw [em, hin.2.2] at hq'
      obtain ⟨j, hj⟩ := List.getElem?_of_mem hq'
      have hji : j < i := by
        have := (List.getElem?_eq_some_iff.mp hj).1
        rw [List.length_take] at this
        omega
      rw [List.getElem?_take_of_lt hji] at hj
      have := List.pairwise_iff_getElem.mp hq.2.1 j i (by omega) hi hji
      rw [(List.getElem?_eq_some_iff.mp hj).2, (List.getElem?_eq_some_iff.mp hg).2] at this
      exact this
    · obtain ⟨-, w1, w2, w3, w4⟩ := w
      rw [w2 0 (by omega), e0, inc1 (by omega)] at k2
      rw [inc1 (by omega)]
      have g2 : ∀ c, c ≠ 310 → h2 c = g c := fun c hc => by rw [k2, ft_hs_ne c hc, w1 c hc]
      refine ih (i + 1) h2 (by omega) (fun c hc => by rw [g2 c hc, f c hc]) (fun j hj => by rw [k2, ft_hs_j (by omega), w2 j (by omega), fj j hj]) (by rw [k2, ft_hs_same]) ?_ (fun k hk' => by rw [k2, ft_hs_j (by omega)]; exact w4 k hk')
      rw [ft_ml_mv (h := h1) (c := 310) (o := 10) (fun j hj => by rw [k2, ft_hs_j (by omega)]), w3, em, insF_take hg]
theorem v_Mo_ld130 {h0 : ftH} {R : Option ftV → ftH → Prop} (hk : ∀ h', (∀ c, c ≠ 310 → h' c = h0 c) → (∀ j, j < 520 → j ≠ 0 → h' 310 j = if j < 10 ∨ 190 ≤ j then h0 332 j else 0) → h' 310 0 = 0 → ft_V k_Mo_load 181 [some (.inr (.inr 309)), some (.inl 0)] [] h' R) : ∀ (m i : Nat) (g : ftH), i + m = 520 → (∀ c, c ≠ 310 → g c = h0 c) → (∀ j, j < i → g 310 j = if j < 10 ∨ 190 ≤ j then h0 332 j else 0) → ft_V k_Mo_load 130 [some (.inr (.inr 309)), some (.inl (i : Int))] [] g R := by
  intro m
  induction m with
  | zero =>
    intro i g hm f fj
    refine b_Mo_load_130 ⟨fun _ h1 k1 => hk h1 (fun c hc => by rw [k1, ft_hs_ne c hc, f c hc]) (fun j hj hj0 => by rw [k1, ft_hs_j hj0]; exact fj j (by omega)) (by rw [k1, ft_hs_same]), fun c => absurd (by omega) c⟩
  | succ m ih =>
    intro i g hm f fj
    have nx : ∀ z : Int, z = (if i < 10 ∨ 190 ≤ i then h0 332 i else 0) → ft_V k_Mo_load 165 [some (.inr (.inr 309)), some (.inl (i : Int))] [.inl z, .inl (i : Int), .inr (.inr 310)] g R := fun z hz => by
      refine b_Mo_load_165 (by decide +kernel) ⟨⟨by omega, ?_⟩, fun h1 k1 => ?_⟩
      · have : ft_ln 310 = 520 := by decide +kernel
        rw [this]
        omega
      · rw [inc1 (by omega)]
        rw [Int.toNat_natCast] at k1
        refine ih (i + 1) h1 (by omega) (fun c hc => by rw [k1, ft_hs_ne c hc, f c hc]) (fun j hj => ?_)
        by_cases e : j = i
        · rw [e, k1, ft_hs_same, hz]
        · rw [k1, ft_hs_j e]
          exact fj j (by omega)
    have nx2 : (i < 10 ∨ 190 ≤ i) → ft_V k_Mo_load 155 [some (.inr (.inr 309)), some (.inl (i : Int))] [.inl (i : Int), .inr (.inr 310)] g R := fun hc => by
      refine b_Mo_load_155 (by decide +kernel) ⟨⟨by omega, by omega⟩, ?_⟩
      rw [Int.toNat_natCast]
      exact nx _ (by rw [if_pos hc, f 332 (by omega)])
    refine b_Mo_load_130 ⟨fun c => absurd c (by omega), fun _ => ⟨fun c => nx2 (by omega), fun c => ⟨fun d => nx 0 (by rw [if_neg (by omega)]), fun d => nx2 (by omega)⟩⟩⟩
/-- what load leaves alone, in the reference -/
def lmF (h h' : ftH) : Prop := (∀ c, c ≠ 309 → c ≠ 310 → c ≠ 332 → h' c = h c) ∧ ∀ j, j < 34 → j ≠ 4 → j ≠ 20 → h' 309 j = h 309 j
def ldM (T : List Int) (x : Nat ⊕ (Int × List (Int × Int) × List (Int × Int))) (h : ftH) (r : Option ftV) (h' : ftH) : Prop := tpM h' [] ∧ lmF h h' ∧ ((∃ e : Nat, x = .inl e ∧ r = some (.inl (-1)) ∧ h' 309 42 = (e : Int) ∧ h' 310 = h 310 ∧ h' 309 4 = h 309 4 ∧ h' 309 20 = h 309 20) ∨ ∃ y, x = .inr y ∧ r = some (.inl ((ldS y).2.1.length : Int)) ∧ h' 309 42 = -2 ∧ h' 309 20 = 0 ∧ mcI h' (ldS y) [])
theorem v_Mo_ld114 {h g : ftH} {T : List Int} (f : rrF h g) {c : Int} {Q G : List (Int × Int)} (ht : tdI g Q G) (hq : qOk Q) (hg : gOk G) (hc3 : g 332 3 = c) (hcz : g 332 2 = 0 ∧ ∀ j, 4 ≤ j → j < 10 → g 332 j = 0) {p : Nat} (hx : rdI g T (.inr p)) : ft_V k_Mo_load 114 [some (.inr (.inr 309)), none] [] g (ldM T (.inr (c, Q, G)) h) := by
  refine b_Mo_load_114 (fun h1 k1 => ⟨fun _ => ?_, fun q => absurd (by rw [k1, ft_hs_j (by omega)]; exact hx.1) q⟩)
  have f1 : ∀ c, c ≠ 309 → h1 c = g c := fun c hc => by rw [k1, ft_hs_ne c hc]
  have t1 : tdI h1 Q G := tdI_fr (f1 332 (by omega)) ht
  refine v_Mo_ld130 (h0 := h1) (fun h2 a1 a2 a3 => ?_) 520 0 h1 (by omega) (fun _ _ => rfl) (fun j hj => absurd hj (Nat.not_lt_zero j))
  have t2 : tdI h2 Q G := tdI_fr (a1 332 (by omega)) t1
  refine v_Mo_ld181 (h0 := h2) t2 hq (fun h' b1 b2 b3 b4 b5 b6 b7 b8 => ?_) Q.length 0 h2 (by omega) (fun _ _ => rfl) (fun _ _ => rfl) a3 rfl (fun k hk => absurd hk (Nat.not_lt_zero k))
  have w3 : ∀ j, (1 ≤ j ∧ j < 10) ∨ (190 ≤ j ∧ j < 520) → h' 310 j = g 332 j := fun j hj => by rw [b5 j (by omega), a2 j (by omega) (by omega), if_pos (by omega), f1 332 (by omega)]
  have hin := insF_ok hq
  have g40 := hg.1
  have q60 := hq.2.2
  have e1 : h' 310 1 = (G.length : Int) := by rw [w3 1 (by omega)]; exact ht.2.1
  have e2 : h' 310 2 = 0 := by rw [w3 2 (by omega)]; exact hcz.1
  have gl : ft_gl h' 310 190 G.length = G := by
    rw [ft_gl_mv (h := g) (c := 332) (o := 190) (fun j hj => w3 _ (by omega))]
    exact ht.2.2
  refine ⟨⟨by rw [b2 34 (by omega) (by omega), a1 309 (by omega), k1, ft_hs_same]; rfl, by simp, fun j x hx => by simp at hx⟩, ⟨fun c c1 c2 c3 => by rw [b1 c c1 c2, a1 c c2, f1 c c1, f.1 c c1 c3], fun j j1 j2 j3 => by rw [b2 j j2 j3, a1 309 (by omega), k1, ft_hs_j (by omega), f.2.1 j (by omega)]⟩, Or.inr ⟨(c, Q, G), rfl, ?_, ?_, b4, ⟨?_, ?_⟩, by rw [b3]; rfl, by simp, fun d X hX => by simp at hX⟩⟩
  · rw [show (ldS (c, Q, G)).2.1 = insF Q from rfl, hin.2.1]
  · rw [b2 42 (by omega) (by omega), a1 309 (by omega), k1, ft_hs_j (by omega), hx.2.1.2]
  · refine ft_mz_0.mpr ⟨by omega, by omega, by omega, fun k hk => b8 k (by omega), fun k hk => by omega⟩
  · rw [ft_ma_0]
    show (_ : ftS) = (c, insF Q, [], G, [0, 0, 0, 0, 0])
    rw [b6, Int.toNat_natCast, b7, e2, e1, Int.toNat_natCast, gl, w3 3 (by omega), hc3]
    unfold ft_mc
    rw [w3 4 (by omega), w3 5 (by omega), w3 6 (by omega), w3 7 (by omega), w3 8 (by omega), hcz.2 4 (by omega) (by omega), hcz.2 5 (by omega) (by omega), hcz.2 6 (by omega) (by omega), hcz.2 7 (by omega) (by omega), hcz.2 8 (by omega) (by omega)]
    rfl
theorem v_Mo_ld114b {h g : ftH} {T : List Int} (f : rrF h g) (h310 : g 310 = h 310) {e : Nat} (hx : rdI g T (.inl e)) : ft_V k_Mo_load 114 [some (.inr (.inr 309)), none] [] g (ldM T (.inl e) h) := by
  refine b_Mo_load_114 (fun h1 k1 => ⟨fun q => ?_, fun q => ?_⟩)
  · rw [k1, ft_hs_j (by omega), hx.1] at q
    omega
  · have f1 : ∀ c, c ≠ 309 → h1 c = g c := fun c hc => by rw [k1, ft_hs_ne c hc]
    exact ⟨⟨by rw [k1, ft_hs_same]; rfl, by simp, fun j x hx => by simp at hx⟩, ⟨fun c c1 c2 c3 => by rw [f1 c c1, f.1 c c1 c3], fun j j1 j2 j3 => by rw [k1, ft_hs_j (by omega), f.2.1 j (by omega)]⟩, Or.inl ⟨e, rfl, rfl, by rw [k1, ft_hs_j (by omega)]; exact hx.2, by rw [f1 310 (by omega)]; exact h310, by rw [k1, ft_hs_j (by omega), f.2.1 4 (by omega)], by rw [k1, ft_hs_j (by omega), f.2.1 20 (by omega)]⟩⟩
theorem v_Mo_ld81b {h g : ftH} {T : List Int} (f : rrF h g) (h310 : g 310 = h 310) {e : Nat} (hx : rdI g T (.inl e)) : ft_V k_Mo_load 81 [some (.inr (.inr 309)), none] [] g (ldM T (.inl e) h) := by
  have h1 := hx.1
  exact b_Mo_load_81 ⟨fun _ => ⟨fun _ => v_Mo_ld114b f h310 hx, fun q => by omega⟩, fun q => by omega⟩
/-- while a text is read: nothing is wrong yet, what is told lies in 332 -/
def ldI (h g : ftH) (T : List Int) (c : Int) (Q G : List (Int × Int)) (p : Nat) : Prop := rrF h g ∧ g 310 = h 310 ∧ rdI g T (.inr p) ∧ tdI g Q G ∧ g 332 3 = c ∧ (g 332 2 = 0 ∧ ∀ j, 4 ≤ j → j < 10 → g 332 j = 0)
theorem v_Mo_ld81 {h : ftH} {T : List Int} (hB : rdB h T) {c : Int} {Q : List (Int × Int)} (hq : qOk Q) : ∀ (n : Nat) (G : List (Int × Int)) (p : Nat) (g : ftH), G.length + n = 41 → gOk G → ldI h g T c Q G p → ft_V k_Mo_load 81 [some (.inr (.inr 309)), none] [] g (ldM T (pF2 T c Q (pSs T n G p)) h) := by
  intro n
  induction n with
  | zero =>
    intro G p g hn hg
    have := hg.1
    omega
  | succ n ih =>
    intro G p g hn hg hl
    obtain ⟨f, h310, hx, ht, hc3, hcz⟩ := hl
    have hk := tmK_word hx.2.2.2.2 (w := 3) (by omega)
    have he := tmK_end hx.2.2.2.2
    rw [pSs]
    refine b_Mo_load_81 ⟨fun q => ?_, fun q => ⟨_, c_Mo_readsSeen (rrF_B f hB) hx ht hg.1 hq.2.2, fun g1 w => ?_⟩⟩
    · rw [if_neg (fun z => q ⟨hx.1, hk.mpr (by omega)⟩), pF2]
      unfold pEnd
      refine ⟨fun z => absurd hx.1 z, fun _ => ⟨fun z => ?_, fun z => ⟨_, c_Mo_fails hx, fun g1 u => ?_⟩⟩⟩
      · rw [if_pos (he.mp z)]
        exact v_Mo_ld114 f ht hq hg hc3 hcz hx
      · rw [if_neg (fun y => z (he.mpr y))]
        exact v_Mo_ld114b (rrF_tr f (rrF_d u.2.1)) (by rw [u.2.1.1 310 (by omega)]; exact h310) u.2.2
    · have k6 := hk.mp q.2
      rw [if_pos (by omega)]
      obtain ⟨-, w1, ⟨e, x1, w2⟩ | ⟨G', p', x1, w2, w3⟩⟩ := w
      · rw [x1]
        exact v_Mo_ld81b (rrF_tr f w1) (by rw [w1.1 310 (by omega) (by omega)]; exact h310) w2
      · rw [x1]
        have hl' := pSe_len x1
        have ho := pSe_ok hx.2.1.1 hg x1
        exact ih G' p' g1 (by omega) ho.1 ⟨rrF_tr f w1, by rw [w1.1 310 (by omega) (by omega)]; exact h310, w2, w3, by rw [w1.2.2 3 (by omega) (by omega)]; exact hc3, by rw [w1.2.2 2 (by omega) (by omega)]; exact hcz.1, fun j j1 j2 => by rw [w1.2.2 j (by omega) j2]; exact hcz.2 j j1 j2⟩
theorem v_Mo_ld66b {h g : ftH} {T : List Int} (f : rrF h g) (h310 : g 310 = h 310) {e : Nat} (hx : rdI g T (.inl e)) : ft_V k_Mo_load 66 [some (.inr (.inr 309)), none] [] g (ldM T (.inl e) h) := by
  have h1 := hx.1
  exact b_Mo_load_66 ⟨fun _ => v_Mo_ld81b f h310 hx, fun q => by omega⟩
theorem v_Mo_ld66 {h : ftH} {T : List Int} (hB : rdB h T) {c : Int} : ∀ (n : Nat) (Q : List (Int × Int)) (p : Nat) (g : ftH), Q.length + n = 61 → qOk Q → ldI h g T c Q [] p → ft_V k_Mo_load 66 [some (.inr (.inr 309)), none] [] g (ldM T (pF1 T c (pRs T n Q p)) h) := by
  intro n
  induction n with
  | zero =>
    intro Q p g hn hq
    have := hq.2.2
    omega
  | succ n ih =>
    intro Q p g hn hq hl
    obtain ⟨f, h310, hx, ht, hc3, hcz⟩ := id hl
    have hk := tmK_word hx.2.2.2.2 (w := 1) (by omega)
    rw [pRs]
    refine b_Mo_load_66 ⟨fun q => ?_, fun q => ⟨_, c_Mo_readsRoute (rrF_B f hB) hx ht hq.2.2, fun g1 w => ?_⟩⟩
    · rw [if_neg (fun z => q ⟨hx.1, hk.mpr (by omega)⟩), pF1]
      exact v_Mo_ld81 hB hq 41 [] p g rfl ⟨by simp, fun q hq => by simp at hq⟩ hl
    · have k4 := hk.mp q.2
      rw [if_pos (by omega)]
      obtain ⟨-, w1, ⟨e, x1, w2⟩ | ⟨Q', p', x1, w2, w3⟩⟩ := w
      · rw [x1]
        exact v_Mo_ld66b (rrF_tr f w1) (by rw [w1.1 310 (by omega) (by omega)]; exact h310) w2
      · rw [x1]
        have hl' := pRt_len x1
        have ho := pRt_ok hx.2.1.1 hq x1
        exact ih Q' p' g1 (by omega) ho.1 ⟨rrF_tr f w1, by rw [w1.1 310 (by omega) (by omega)]; exact h310, w2, w3, by rw [w1.2.2 3 (by omega) (by omega)]; exact hc3, by rw [w1.2.2 2 (by omega) (by omega)]; exact hcz.1, fun j j1 j2 => by rw [w1.2.2 j (by omega) j2]; exact hcz.2 j j1 j2⟩
def rlF (h h' : ftH) : Prop := (∀ c, c ≠ 309 → c ≠ 332 → h' c = h c) ∧ ∀ j, j < 36 → h' 309 j = h 309 j
theorem ldM_of {T : List Int} {x : Nat ⊕ (Int × List (Int × Int) × List (Int × Int))} {h g : ftH} (f : rlF h g) {r : Option ftV} {h' : ftH} (w : ldM T x g r h') : ldM T x h r h' := by
  obtain ⟨w1, w2, w3⟩ := w
  refine ⟨w1, ⟨fun c c1 c2 c3 => by rw [w2.1 c c1 c2 c3, f.1 c c1 c3], fun j j1 j2 j3 => by rw [w2.2 j j1 j2 j3, f.2 j (by omega)]⟩, ?_⟩
  rcases w3 with ⟨e, a1, a2, a3, a4, a5, a6⟩ | w3
  · exact Or.inl ⟨e, a1, a2, a3, by rw [a4, f.1 310 (by omega) (by omega)], by rw [a5, f.2 4 (by omega)], by rw [a6, f.2 20 (by omega)]⟩
  · exact Or.inr w3
