/-! the reference: hits, decisions -/
theorem tI0_ht {h : ftH} {E : List (Int × Int)} {f ht c : Nat → Int} (he : ∀ i, i < E.length → f i = ht i) (hI : tI h E f c 0) : tI h E ht c 0 := by
  have hv : ∀ e k p x, vF E f c 0 e k p x ↔ vF E ht c 0 e k p x := fun e k p x => by
    unfold vF
    constructor
    · rintro ⟨D, d1, d2, d3⟩
      refine ⟨D, d1, d2, ?_⟩
      rw [d3, d1.2]
      rfl
    · rintro ⟨D, d1, d2, d3⟩
      refine ⟨D, d1, d2, ?_⟩
      rw [d3, d1.2]
      rfl
  refine ⟨fun e e1 k hk p hp => mV_congr (fun x => ?_) (hI.1 e e1 k hk p hp), fun p hp => mV_congr (fun x => hv _ _ _ _) (hI.2 p hp)⟩
  unfold vE
  rw [he e (by omega)]
  constructor
  · rintro (⟨a1, a2, q, a3, a4⟩ | ⟨a1, a2, y, a3, a4⟩)
    · exact Or.inl ⟨a1, a2, q, (hv _ _ _ _).mp a3, a4⟩
    · exact Or.inr ⟨a1, a2, y, (hv _ _ _ _).mp a3, a4⟩
  · rintro (⟨a1, a2, q, a3, a4⟩ | ⟨a1, a2, y, a3, a4⟩)
    · exact Or.inl ⟨a1, a2, q, (hv _ _ _ _).mpr a3, a4⟩
    · exact Or.inr ⟨a1, a2, y, (hv _ _ _ _).mpr a3, a4⟩
theorem d_Mo_laysLost {E : List (Int × Int)} (h60 : E.length ≤ 60) {ht : Nat → Int} (hn : ∀ i, 0 ≤ ht i) (hU : sm ht E.length ≤ 40000000) {h : ftH} (h14 : h 309 14 = (E.length : Int)) (h21 : ∀ i, i < E.length → h 321 i = (upO E i : Int)) (h22 : ∀ i, i < E.length → h 322 i = ht i) : ft_C k_Mo_laysLost [.inr (.inr 309)] h (fun r h' => r = none ∧ tabN h' E ht (h 325) ∧ ∀ c, c ≠ 323 → c ≠ 324 → h' c = h c) := by
  refine ft_enter (n := 1) rfl (Nat.le_of_ble_eq_true rfl) rfl (b_Mo_laysLost_0 ⟨_, c_Mo_starts h60 h14, fun h1 hw n3 e3 => ?_⟩)
  obtain ⟨-, u1, u2⟩ := hw
  rw [u2 309 (by omega), h14, ft_sub_eq ⟨by omega, by omega⟩] at e3
  rw [e3]
  exact v_Mo_laysLost h60 hn hU (h0 := h1) (fun i hi => by rw [u2 321 (by omega)]; exact h21 i hi) (fun g k1 k2 => ⟨rfl, k1.2, fun c c1 c2 => by rw [k2 c c1 c2, u2 c c1]⟩) E.length 0 h1 (by omega) (tI0_ht h22 u1) (fun c _ _ => rfl)
theorem v_Mo_hits2 {E : List (Int × Int)} (hL : lOk E) (h60 : E.length ≤ 60) {h0 : ftH} (hE : enI h0 E) {R : Option ftV → ftH → Prop} (hk : ∀ h : ftH, (∀ i, i < E.length → h 321 i = (upO E i : Int) ∧ h 322 i = 0 ∧ h 325 i = 2) → (∀ c, c ≠ 321 → c ≠ 322 → c ≠ 325 → h c = h0 c) → ft_V k_Mo_laysHits 65 [some (.inr (.inr 309)), some (.inl 0), none] [] h R) :
    ∀ (m e : Nat) (h : ftH), e + m = E.length → (∀ c, c ≠ 321 → c ≠ 322 → c ≠ 325 → h c = h0 c) → (∀ i, i < e → h 321 i = (upO E i : Int) ∧ h 322 i = 0 ∧ h 325 i = 2) → ft_V k_Mo_laysHits 2 [some (.inr (.inr 309)), some (.inl (e : Int)), none] [] h R := by
  intro m
  induction m with
  | zero =>
    intro e h hm f hd
    exact b_Mo_laysHits_2 ⟨fun _ => hk h (fun i hi => hd i (by omega)) f, fun c => absurd (by rw [f 309 (by omega) (by omega) (by omega), hE.1]; omega) c⟩
  | succ m ih =>
    intro e h hm f hd
    have heE : e < E.length := by omega
    refine b_Mo_laysHits_2 ⟨fun c => absurd c (by rw [f 309 (by omega) (by omega) (by omega), hE.1]; omega), fun _ => ⟨⟨by omega, by omega⟩, fun h1 e1 => ⟨⟨by omega, by omega⟩, fun h2 e2 => ?_⟩⟩⟩
    rw [Int.toNat_natCast] at e1 e2
    have r2 : ∀ c, c ≠ 322 → c ≠ 325 → h2 c = h c := fun c c1 c2 => by rw [e2, ft_hs_ne c c2, e1, ft_hs_ne c c1]
    have hE2 : enI h2 E := enI_fr hE (by rw [r2 309 (by omega) (by omega), f 309 (by omega) (by omega) (by omega)]) (by rw [r2 318 (by omega) (by omega), f 318 (by omega) (by omega) (by omega)]) (by rw [r2 319 (by omega) (by omega), f 319 (by omega) (by omega) (by omega)]) (by rw [r2 320 (by omega) (by omega), f 320 (by omega) (by omega) (by omega)])
    have ha := enI_at hE2 heE
    rw [Int.toNat_natCast, inc1 (by omega)]
    refine ⟨⟨by omega, by omega⟩, ⟨by omega, by omega⟩, _, c_Mo_entryFor hE2 (by omega), fun z3 h3 _ hw => ?_⟩
    obtain ⟨rfl, r, hz, hlg⟩ := hw
    have hz := injI hz
    subst hz
    rw [← ha.2.2.1, ← ha.2.2.2] at hlg
    have hp := par_of_lg hL heE hlg
    have fin : ∀ (h4 : ftH) (x : Int), x = (upO E e : Int) → h4 = ft_hs h3 321 e x → ft_V k_Mo_laysHits 2 [some (.inr (.inr 309)), some (.inl ((e + 1 : Nat) : Int)), none] [] h4 R := fun h4 x hx e4 => by
      refine ih (e + 1) h4 (by omega) (fun c c1 c2 c3 => by rw [e4, ft_hs_ne c c1, r2 c c2 c3, f c c1 c2 c3]) (fun i hi => ?_)
      have y1 : h4 322 = h3 322 := by rw [e4]; exact ft_hs_ne _ (by omega)
      have y2 : h4 325 = h3 325 := by rw [e4]; exact ft_hs_ne _ (by omega)
      have y3 : h3 322 = h1 322 := by rw [e2]; exact ft_hs_ne _ (by omega)
      by_cases q : i = e
      · subst q
        rw [y1, y2, y3, e4, ft_hs_same, e1, ft_hs_same, e2, ft_hs_same]
        exact ⟨hx, rfl, rfl⟩
      · rw [y1, y2, y3, e4, ft_hs_j q, e1, ft_hs_j q, e2, ft_hs_j q, ft_hs_ne 321 (by omega), e1, ft_hs_ne 321 (by omega), ft_hs_ne 325 (by omega)]
        exact hd i (by omega)
    refine ⟨fun c => ⟨⟨by omega, by omega⟩, fun h4 e4 => fin h4 z3 ?_ e4⟩, fun c => ⟨⟨by omega, by omega⟩, fun h5 e5 => fin h5 64 ?_ e5⟩⟩
    · have := (hp.2.1 c).1
      unfold upO
      rw [if_neg (by omega)]
      omega
    · have := hp.1 (by omega)
      unfold upO
      rw [if_pos (by omega)]
      rfl
theorem v_Mo_hits65 {o : Nat} (ho : o = 190) {E : List (Int × Int)} (hL : lOk E) (h60 : E.length ≤ 60) {h0 : ftH} (hE : enI h0 E) {G : List (Int × Int)} (hG : gOk G) {n : Nat} (hn1 : h0 310 1 = (n : Int)) (eG : ft_gl h0 310 o n = G) {R : Option ftV → ftH → Prop} (hk : ∀ h : ftH, (∀ i, i < E.length → h 322 i = hitI E G i) → (∀ c, c ≠ 322 → h c = h0 c) → R none h) :
    ∀ (m i : Nat) (h : ftH), i + m = n → (∀ c, c ≠ 322 → h c = h0 c) → (∀ j, j < E.length → h 322 j = hitI E (G.take i) j) → ft_V k_Mo_laysHits 65 [some (.inr (.inr 309)), some (.inl (i : Int)), none] [] h R := by
  have hlen : G.length = n := by rw [← eG, ft_gl_len]
  have h40 := hG.1
  intro m
  induction m with
  | zero =>
    intro i h hm f hd
    rw [List.take_of_length_le (by omega)] at hd
    exact b_Mo_laysHits_65 ⟨fun _ => hk h hd f, fun c => absurd (by rw [f 310 (by omega), hn1]; omega) c⟩
  | succ m ih =>
    intro i h hm f hd
    have hgi := gl_at eG (i := i) (by omega)
    have hq := hG.2 _ (List.mem_of_getElem? hgi)
    have ht := take_succ_get G i _ hgi
    have hE2 : enI h E := enI_fr hE (by rw [f 309 (by omega)]) (f 318 (by omega)) (f 319 (by omega)) (f 320 (by omega))
    have hi := ih (i + 1)
    rw [ht] at hi
    simp only [hitI_snoc] at hi
    refine b_Mo_laysHits_65 ⟨fun c => absurd c (by rw [f 310 (by omega), hn1]; omega), fun _ => ⟨⟨by omega, by omega⟩, _, c_Mo_entryFor hE2 (by omega), fun z5 h1 _ hw => ?_⟩⟩
    obtain ⟨rfl, r, hz, hlg⟩ := hw
    have hz := injI hz
    subst hz
    rw [Int.toNat_natCast, f 310 (by omega), show 190 + 2 * i = o + 2 * i by omega] at hlg
    have hlm := lmI_of (isLg_isLm hL hlg)
    rw [Int.toNat_natCast, f 310 (by omega), show 191 + 2 * i = o + 2 * i + 1 by omega, inc1 (by omega)]
    refine ⟨fun c => ?_, fun c => ?_⟩
    · refine hi h1 (by omega) f (fun j hj => ?_)
      rw [hd j hj, if_neg (by rw [hlm, if_pos c]; omega)]
      omega
    · rw [if_neg c] at hlm
      obtain ⟨p, rfl⟩ := Int.eq_ofNat_of_zero_le (show 0 ≤ z5 by omega)
      have hpE : p < E.length := (lmI_in hlm).1
      have b1 := hit_nn (E := E) (gOk_take hG i) p
      have b2 := hit_le (E := E) (gOk_take hG i) hpE
      rw [Int.toNat_natCast]
      refine ⟨⟨by omega, by omega⟩, ⟨by omega, by omega⟩, ⟨by omega, by omega⟩, fun h2 e2 => ?_⟩
      rw [hd p hpE, ft_add_eq ⟨by omega, by omega⟩] at e2
      refine hi h2 (by omega) (fun c hc => by rw [e2, ft_hs_ne c hc, f c hc]) (fun j hj => ?_)
      by_cases q : j = p
      · subst q
        rw [e2, ft_hs_same, if_pos hlm]
      · rw [e2, ft_hs_j q, hd j hj, if_neg (by rw [hlm]; omega)]
        omega
theorem c_Mo_laysHits {o : Nat} (ho : o = 190) {E : List (Int × Int)} (hL : lOk E) (h60 : E.length ≤ 60) {h : ftH} (hE : enI h E) {G : List (Int × Int)} (hG : gOk G) {n : Nat} (hn1 : h 310 1 = (n : Int)) (eG : ft_gl h 310 o n = G) : ft_C k_Mo_laysHits [.inr (.inr 309)] h (fun r h' => r = none ∧ (∀ i, i < E.length → h' 321 i = (upO E i : Int) ∧ h' 322 i = hitI E G i ∧ h' 325 i = 2) ∧ ∀ c, c ≠ 321 → c ≠ 322 → c ≠ 325 → h' c = h c) := by
  refine ft_enter (n := 2) rfl (Nat.le_of_ble_eq_true rfl) rfl (b_Mo_laysHits_0 (v_Mo_hits2 hL h60 hE (fun g k1 k2 => ?_) E.length 0 h (by omega) (fun c _ _ _ => rfl) (fun i hi => absurd hi (Nat.not_lt_zero i))))
  have hE2 : enI g E := enI_fr hE (by rw [k2 309 (by omega) (by omega) (by omega)]) (k2 318 (by omega) (by omega) (by omega)) (k2 319 (by omega) (by omega) (by omega)) (k2 320 (by omega) (by omega) (by omega))
  have g310 : g 310 = h 310 := k2 310 (by omega) (by omega) (by omega)
  refine v_Mo_hits65 ho hL h60 hE2 hG (n := n) (by rw [g310]; exact hn1) (by unfold ft_gl; rw [g310]; exact eG) (fun g' l1 l2 => ⟨rfl, fun i hi => ?_, fun c c1 c2 c3 => by rw [l2 c c2, k2 c c1 c2 c3]⟩) n 0 g (by omega) (fun c _ => rfl) (fun j hj => by rw [(k1 j hj).2.1]; rfl)
  rw [l2 321 (by omega), l2 325 (by omega)]
  exact ⟨(k1 i hi).1, l1 i hi, (k1 i hi).2.2⟩
/-! the best, out of the table -/
theorem max_bits {P : List (Nat × Bool) → Prop} {D : List (Nat × Bool)} (h : P D) : ∃ D', P D' ∧ ∀ D'', P D'' → bD D'' ≤ bD D' := by
  obtain ⟨k, -, ⟨D', d1, d2⟩, k3⟩ := least_of (P := fun k => ∃ D, P D ∧ k = 2 ^ 60 - bD D) (2 ^ 60 - bD D) ⟨D, h, rfl⟩
  refine ⟨D', d1, fun D'' h'' => ?_⟩
  by_cases c : bD D'' ≤ bD D'
  · exact c
  · have := bD_lt D''
    exact absurd ⟨D'', h'', rfl⟩ (k3 (2 ^ 60 - bD D'') (by omega))
theorem vF_free {E : List (Int × Int)} {ht c : Nat → Int} (hc : ∀ i, i < E.length → c i = 2) {p : Nat} {x : Int} : vF E ht c E.length (-1) 0 p x ↔ ∃ D, cF E.length (parI E) E.length (-1) 0 p D ∧ x = lD ht D := by
  constructor
  · rintro ⟨D, d1, -, d3⟩; exact ⟨D, d1, d3⟩
  · rintro ⟨D, d1, d3⟩
    refine ⟨D, d1, fun y hy => ?_, d3⟩
    have : y.1 ∈ dom E.length (parI E) E.length (-1) := by rw [← cF_dom d1]; exact List.mem_map_of_mem hy
    have := hc y.1 (dom_ge (Nat.le_refl _) this).2
    exact ⟨fun t => by omega, fun t => by omega⟩
/-- table, least lost hits, fewest places: the best choice -/
theorem tab_best {E : List (Int × Int)} (h60 : E.length ≤ 60) {ht c : Nat → Int} (hn : ∀ i, 0 ≤ ht i) (hU : sm ht E.length ≤ 40000000) (hc : ∀ i, i < E.length → c i = 2) {h : ftH} (hT : tabN h E ht c) {cap : Nat} (hcap : cap ≤ 60) {b : Int} (b1 : ∀ p, p ≤ cap → b ≤ h 323 (7808 + p)) (b2 : ∃ p, p ≤ cap ∧ b = h 323 (7808 + p)) : ∃ x D, x ≤ cap ∧ h 323 (7808 + x) = b ∧ (∀ q, q < x → h 323 (7808 + q) ≠ b) ∧ bestC E ht cap x D ∧ b = lD ht D := by
  obtain ⟨D0, d1, -⟩ := cF_none (n := E.length) (par := parI E) E.length (-1)
  have row : ∀ p, p ≤ 60 → mV (fun x => ∃ D, cF E.length (parI E) E.length (-1) 0 p D ∧ x = lD ht D) (h 323 (7808 + p)) := fun p hp => mV_congr (fun x => vF_free hc) (hT p hp)
  have cap' : ∀ p D, cF E.length (parI E) E.length (-1) 0 p D → 0 ≤ lD ht D ∧ lD ht D ≤ 40000000 := fun p D q => by
    have h1 := top_sum (ht := ht) q
    have h2 := hD_nn hn D
    omega
  have hb9 : b < 1000000000 := by
    have h1 := b1 0 (by omega)
    have h2 := cap' 0 D0 d1
    rcases row 0 (by omega) with ⟨-, q⟩ | ⟨-, q⟩
    · exact absurd ⟨D0, d1, rfl⟩ (q _)
    · have := q _ ⟨D0, d1, rfl⟩
      omega
  obtain ⟨p0, p1, p2⟩ := b2
  obtain ⟨x, x1, x2, x3⟩ := least_of (P := fun p => h 323 (7808 + p) = b) p0 p2.symm
  have hx : ∃ D, cF E.length (parI E) E.length (-1) 0 x D ∧ b = lD ht D := by
    rcases row x (by omega) with ⟨q, -⟩ | ⟨q, -⟩
    · omega
    · rw [x2] at q; exact q
  obtain ⟨D1, e1, e2⟩ := hx
  obtain ⟨D, ⟨g1, g2⟩, g3⟩ := max_bits (P := fun D => cF E.length (parI E) E.length (-1) 0 x D ∧ b = lD ht D) ⟨e1, e2⟩
  have hsum := top_sum (ht := ht) g1
  have low : ∀ p' D', cF E.length (parI E) E.length (-1) 0 p' D' → p' ≤ cap → b ≤ lD ht D' := fun p' D' q1 q2 => by
    have h1 := b1 p' q2
    rcases row p' (by omega) with ⟨-, q⟩ | ⟨-, q⟩
    · exact absurd ⟨D', q1, rfl⟩ (q _)
    · have := q _ ⟨D', q1, rfl⟩
      omega
  refine ⟨x, D, by omega, x2, x3, ⟨by omega, g1, fun p' D' q1 q2 => ?_, fun p' D' q1 q2 q3 => ?_, fun D' q1 q2 => ?_⟩, g2⟩
  · have := low p' D' q1 q2
    have := top_sum (ht := ht) q1
    omega
  · have h1 := top_sum (ht := ht) q1
    by_cases t : x ≤ p'
    · exact t
    · exfalso
      refine x3 p' (by omega) ?_
      have h2 := b1 p' q2
      rcases row p' (by omega) with ⟨-, q⟩ | ⟨-, q⟩
      · exact absurd ⟨D', q1, rfl⟩ (q _)
      · have := q _ ⟨D', q1, rfl⟩
        omega
  · have h1 := top_sum (ht := ht) q1
    exact g3 D' ⟨q1, by omega⟩
theorem lt_bits {a b : Nat} (i : Nat) (h1 : a.testBit i = false) (h2 : b.testBit i = true) (h : ∀ j, i < j → a.testBit j = b.testBit j) : a < b := by
  have e : a / 2 ^ (i + 1) = b / 2 ^ (i + 1) := by
    apply Nat.eq_of_testBit_eq
    intro j
    rw [Nat.testBit_div_two_pow, Nat.testBit_div_two_pow]
    exact h _ (by omega)
  rw [Nat.testBit_eq_decide_div_mod_eq] at h1 h2
  simp only [decide_eq_true_eq, decide_eq_false_iff_not] at h1 h2
  rw [Nat.pow_succ, ← Nat.div_div_eq_div_mul, ← Nat.div_div_eq_div_mul] at e
  have h3 : a / 2 ^ i < b / 2 ^ i := by omega
  by_cases c : a < b
  · exact c
  · have := Nat.div_le_div_right (c := 2 ^ i) (show b ≤ a by omega)
    omega
/-- one decision -/
theorem dec_step {E : List (Int × Int)} (h60 : E.length ≤ 60) {ht : Nat → Int} (hn : ∀ i, 0 ≤ ht i) (hU : sm ht E.length ≤ 40000000) {cap bp : Nat} {D : List (Nat × Bool)} (hB : bestC E ht cap bp D) {e : Nat} (he : e < E.length) {c : Nat → Int} (c1 : ∀ j, j < e → c j = if (bD D).testBit (59 - j) = true then 1 else 0) (c2 : c e = 1) (c3 : ∀ j, e < j → j < E.length → c j = 2) {v : Int} (hv : mV (vF E ht c E.length (-1) 0 bp) v) : v = lD ht D ↔ (bD D).testBit (59 - e) = true := by
  have hp : ∀ i, parI E i < i := fun i => (parI_rng E i).2
  obtain ⟨a1, a2, a3, a4, a5⟩ := hB
  have ok : ∀ D' p', cF E.length (parI E) E.length (-1) 0 p' D' → ∀ x ∈ D', (bD D').testBit (59 - x.1) = x.2 ∧ x.1 < E.length := fun D' p' q x hx => by
    have hnd : (D'.map (fun x => x.1)).Nodup := by rw [cF_dom q]; exact dom_nodup hp (Nat.le_refl _) (by omega)
    have hlt : ∀ y ∈ D'.map (fun x => x.1), y < E.length := fun y hy => by rw [cF_dom q] at hy; exact (dom_ge (Nat.le_refl _) hy).2
    exact ⟨bD_kept hnd (fun y hy => by have := hlt y hy; omega) x hx, hlt x.1 (List.mem_map_of_mem hx)⟩
  have all : ∀ D' p', cF E.length (parI E) E.length (-1) 0 p' D' → ∀ y, y < E.length → ∃ b, (y, b) ∈ D' := fun D' p' q y hy => by
    have : y ∈ D'.map (fun x => x.1) := by rw [cF_dom q, dom_top.mem_iff, List.mem_range]; exact hy
    obtain ⟨x, x1, x2⟩ := List.mem_map.mp this
    exact ⟨x.2, by rw [← x2]; exact x1⟩
  have hs := top_sum (ht := ht) a2
  have hD0 := hD_nn hn D
  constructor
  · intro hv2
    rcases hv with ⟨q, -⟩ | ⟨⟨D', d1, d2, d3⟩, -⟩
    · omega
    · have hs' := top_sum (ht := ht) d1
      cases hb : (bD D).testBit (59 - e) with
      | true => rfl
      | false =>
        exfalso
        have h5 := a5 D' d1 (by omega)
        obtain ⟨be, hbe⟩ := all D' bp d1 e he
        have hke := (ok D' bp d1 _ hbe)
        have : be = true := (d2 _ hbe).1 c2
        rw [this] at hke
        have hlt : bD D < bD D' := by
          refine lt_bits (59 - e) hb hke.1 (fun j hj => ?_)
          by_cases q : j ≤ 59
          · have hy : 59 - (59 - j) = j := by omega
            have hye : 59 - j < e := by omega
            obtain ⟨by', hby'⟩ := all D' bp d1 (59 - j) (by omega)
            have hk' := ok D' bp d1 _ hby'
            have hc := c1 (59 - j) hye
            have hd := d2 _ hby'
            simp only at hk' hd hc
            rw [hy] at hk' hc
            rw [hk'.1]
            cases hz : (bD D).testBit j with
            | true =>
              rw [hz, if_pos rfl] at hc
              exact (hd.1 hc).symm
            | false =>
              rw [hz, if_neg (by decide)] at hc
              exact (hd.2 hc).symm
          · have l1 := bD_lt D
            have l2 := bD_lt D'
            have big : (2 : Nat) ^ 60 ≤ 2 ^ j := Nat.pow_le_pow_right (by omega) (by omega)
            rw [Nat.testBit_lt_two_pow (by omega), Nat.testBit_lt_two_pow (by omega)]
        omega
  · intro hb
    have hok : okD c D := fun x hx => by
      have hk := ok D bp a2 x hx
      rcases Nat.lt_trichotomy x.1 e with q | q | q
      · have := c1 x.1 q
        rw [hk.1] at this
        cases hx2 : x.2 with
        | true => rw [hx2, if_pos rfl] at this; exact ⟨fun _ => rfl, fun t => by omega⟩
        | false => rw [hx2, if_neg (by decide)] at this; exact ⟨fun t => by omega, fun _ => rfl⟩
      · rw [q, hb] at hk
        rw [q, c2]
        exact ⟨fun _ => hk.1.symm, fun t => by omega⟩
      · have := c3 x.1 q hk.2
        exact ⟨fun t => by omega, fun t => by omega⟩
    rcases hv with ⟨-, q⟩ | ⟨⟨D', d1, d2, d3⟩, q⟩
    · exact absurd ⟨D, a2, hok, rfl⟩ (q _)
    · have h1 := q _ ⟨D, a2, hok, rfl⟩
      have h2 := a3 bp D' d1 a1
      have hs' := top_sum (ht := ht) d1
      omega
