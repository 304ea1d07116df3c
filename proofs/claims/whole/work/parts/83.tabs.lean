/-! THE REFERENCE'S TABLES OF LOST HITS -/
theorem vE_b {E : List (Int × Int)} {ht c : Nat → Int} (hn : ∀ i, 0 ≤ ht i) (hU : sm ht E.length ≤ 40000000) {m : Nat} (hm : m ≤ E.length) {e : Nat} (he : e < E.length - m) (k p : Nat) : bV (vE E ht c m e k p) := by
  intro x hx
  have hp : ∀ i, parI E i < i := fun i => (parI_rng E i).2
  have key : ∀ (b : Bool) (D : List (Nat × Bool)) (k' q : Nat), cF E.length (parI E) m (e : Int) k' q D → 0 ≤ lD ht ((e, b) :: D) ∧ lD ht ((e, b) :: D) ≤ 40000000 := fun b D k' q hc => by
    have hd : ((((e, b) :: D).map (fun x => x.1))).Nodup := by
      rw [List.map_cons, cF_dom hc, List.nodup_cons]
      refine ⟨fun t => ?_, dom_nodup hp hm (by omega)⟩
      have := (dom_ge hm t).1
      simp only at this
      omega
    have h1 := hD_cap hn rfl hd (n := E.length) (fun y hy => by
      rw [List.map_cons, cF_dom hc] at hy
      rcases List.mem_cons.mp hy with t | t
      · rw [t]; simp only; omega
      · exact (dom_ge hm t).2)
    have := (hD_nn hn ((e, b) :: D)).2
    omega
  rcases hx with ⟨-, -, q, ⟨D, d1, -, d3⟩, -⟩ | ⟨-, -, y, ⟨D, d1, -, d3⟩, h3⟩
  · have := key true D 1 q d1
    rw [lD_cons, if_pos rfl] at this
    omega
  · have := key false D 0 p d1
    rw [lD_cons, if_neg (by decide)] at this
    omega
theorem vU_b {E : List (Int × Int)} {ht c : Nat → Int} (hn : ∀ i, 0 ≤ ht i) (hU : sm ht E.length ≤ 40000000) {m : Nat} (hm : m ≤ E.length) {e : Nat} (he : e < E.length - m) (k p : Nat) : bV (vU E ht c m e k p) := by
  intro x hx
  rcases hx with q | ⟨q, h1, -⟩
  · exact vE_b hn hU hm he 1 p x q
  · exact vE_b hn hU hm he 0 q x h1
def tI (h : ftH) (E : List (Int × Int)) (ht c : Nat → Int) (m : Nat) : Prop := (∀ e, e < E.length - m → ∀ k, k ≤ 1 → ∀ p, p ≤ 60 → mV (vE E ht c m e k p) (h 323 (61 * (2 * e + k) + p))) ∧ ∀ p, p ≤ 60 → mV (vF E ht c m (-1) 0 p) (h 323 (61 * (2 * 64 + 0) + p))
/-! the start -/
def st0 (n : Nat) (ht c : Nat → Int) (e p : Nat) : Int := if p = 0 ∧ e = 64 then 0 else if p = 0 ∧ e < n ∧ c e ≠ 1 then ht e else 1000000000
def st1 (n : Nat) (c : Nat → Int) (e p : Nat) : Int := if p = 1 ∧ e < n ∧ c e ≠ 0 then 0 else 1000000000
theorem v_Mo_starts {n : Nat} (hn : n ≤ 60) {h0 : ftH} (h14 : h0 309 14 = (n : Int)) {R : Option ftV → ftH → Prop} (hk : ∀ h : ftH, (∀ e, e ≤ 64 → ∀ p, p ≤ 60 → h 323 (61 * (2 * e + 0) + p) = st0 n (h0 322) (h0 325) e p ∧ h 323 (61 * (2 * e + 1) + p) = st1 n (h0 325) e p) → (∀ c, c ≠ 323 → h c = h0 c) → R none h) :
    ∀ (m e : Nat) (h : ftH), e + m = 65 → (∀ c, c ≠ 323 → h c = h0 c) → (∀ e', e' < e → ∀ p, p ≤ 60 → h 323 (61 * (2 * e' + 0) + p) = st0 n (h0 322) (h0 325) e' p ∧ h 323 (61 * (2 * e' + 1) + p) = st1 n (h0 325) e' p) → ft_V k_Mo_startsLost 2 [some (.inr (.inr 309)), some (.inl (e : Int)), none] [] h R := by
  intro m
  induction m with
  | zero =>
    intro e h hm f hd
    exact b_Mo_startsLost_2 ⟨fun _ => hk h (fun e' he' => hd e' (by omega)) f, fun c => absurd (by omega) c⟩
  | succ m ih =>
    intro e h hm f hd
    have fin : ∀ g : ftH, (∀ c, c ≠ 323 → g c = h0 c) → (∀ e', e' < e → ∀ p, p ≤ 60 → g 323 (61 * (2 * e' + 0) + p) = st0 n (h0 322) (h0 325) e' p ∧ g 323 (61 * (2 * e' + 1) + p) = st1 n (h0 325) e' p) → (∀ p, p ≤ 60 → g 323 (61 * (2 * e + 0) + p) = st0 n (h0 322) (h0 325) e p ∧ g 323 (61 * (2 * e + 1) + p) = st1 n (h0 325) e p) → ft_V k_Mo_startsLost 125 [some (.inr (.inr 309)), some (.inl (e : Int)), none] [] g R := by
      intro g g1 g2 g3
      refine b_Mo_startsLost_125 ?_
      rw [inc1 (by omega)]
      refine ih (e + 1) g (by omega) g1 (fun e' he' p hp => ?_)
      by_cases q : e' = e
      · rw [q]; exact g3 p hp
      · exact g2 e' (by omega) p hp
    have two : ∀ g : ftH, (∀ c, c ≠ 323 → g c = h0 c) → (∀ e', e' < e → ∀ p, p ≤ 60 → g 323 (61 * (2 * e' + 0) + p) = st0 n (h0 322) (h0 325) e' p ∧ g 323 (61 * (2 * e' + 1) + p) = st1 n (h0 325) e' p) → (∀ p, p ≤ 60 → g 323 (61 * (2 * e + 0) + p) = st0 n (h0 322) (h0 325) e p ∧ g 323 (61 * (2 * e + 1) + p) = 1000000000) → e < n → ft_V k_Mo_startsLost 104 [some (.inr (.inr 309)), some (.inl (e : Int)), none] [] g R := by
      intro g g1 g2 g3 hen
      refine b_Mo_startsLost_104 ⟨⟨by omega, by omega⟩, ?_⟩
      rw [Int.toNat_natCast, g1 325 (by omega)]
      refine ⟨fun c => fin g g1 g2 (fun p hp => ⟨(g3 p hp).1, ?_⟩), fun c => ⟨⟨⟨by omega, by omega⟩, ⟨by omega, by omega⟩, by omega, by omega⟩, ⟨by omega, by omega⟩, fun h1 e1 => ?_⟩⟩
      · rw [(g3 p hp).2, st1, if_neg (fun q => q.2.2 c)]
      · rw [show (61 * (2 * (e : Int) + 1) + 1).toNat = 61 * (2 * e + 1) + 1 by omega] at e1
        refine fin h1 (fun c hc => by rw [e1, ft_hs_ne c hc, g1 c hc]) (fun e' he' p hp => ?_) (fun p hp => ?_)
        · rw [e1, ft_hs_j (by omega), ft_hs_j (by omega)]
          exact g2 e' he' p hp
        · rw [e1, ft_hs_j (by omega)]
          refine ⟨(g3 p hp).1, ?_⟩
          by_cases q : p = 1
          · subst q
            rw [ft_hs_same, st1, if_pos ⟨rfl, hen, c⟩]
          · rw [ft_hs_j (by omega), (g3 p hp).2, st1, if_neg (fun t => q t.1)]
    have mid : ∀ g : ftH, (∀ c, c ≠ 323 → g c = h0 c) → (∀ e', e' < e → ∀ p, p ≤ 60 → g 323 (61 * (2 * e' + 0) + p) = st0 n (h0 322) (h0 325) e' p ∧ g 323 (61 * (2 * e' + 1) + p) = st1 n (h0 325) e' p) → (∀ p, p ≤ 60 → g 323 (61 * (2 * e + 0) + p) = (if p = 0 ∧ e = 64 then 0 else 1000000000) ∧ g 323 (61 * (2 * e + 1) + p) = 1000000000) → ft_V k_Mo_startsLost 66 [some (.inr (.inr 309)), some (.inl (e : Int)), none] [] g R := by
      intro g g1 g2 g3
      refine b_Mo_startsLost_66 ?_
      rw [Int.toNat_natCast, g1 309 (by omega), h14, g1 325 (by omega), g1 322 (by omega)]
      refine ⟨fun c => ⟨⟨by omega, by omega⟩, fun d => two g g1 g2 (fun p hp => ⟨?_, (g3 p hp).2⟩) (by omega), fun d => ⟨⟨⟨by omega, by omega⟩, ⟨by omega, by omega⟩, by omega, by omega⟩, ⟨by omega, by omega⟩, ⟨by omega, by omega⟩, fun h1 e1 => ?_⟩⟩, fun c => fin g g1 g2 (fun p hp => ⟨?_, ?_⟩)⟩
      · rw [(g3 p hp).1, st0, if_neg (by omega), if_neg (by omega), if_neg (fun q => q.2.2 d)]
      · rw [show (61 * (2 * (e : Int) + 0) + 0).toNat = 61 * (2 * e + 0) + 0 by omega] at e1
        refine two h1 (fun c hc => by rw [e1, ft_hs_ne c hc, g1 c hc]) (fun e' he' p hp => ?_) (fun p hp => ?_) (by omega)
        · rw [e1, ft_hs_j (by omega), ft_hs_j (by omega)]
          exact g2 e' he' p hp
        · rw [e1, ft_hs_j (show 61 * (2 * e + 1) + p ≠ _ by omega)]
          refine ⟨?_, (g3 p hp).2⟩
          by_cases q : p = 0
          · subst q
            rw [ft_hs_same, st0, if_neg (by omega), if_pos ⟨rfl, by omega, d⟩]
          · rw [ft_hs_j (by omega), (g3 p hp).1, st0, if_neg (by omega), if_neg (by omega), if_neg (fun t => q t.1)]
      · rw [(g3 p hp).1, st0]
        by_cases q : p = 0 ∧ e = 64
        · rw [if_pos q, if_pos q]
        · rw [if_neg q, if_neg q, if_neg (by omega)]
      · rw [(g3 p hp).2, st1, if_neg (by omega)]
    have inner : ∀ (k p : Nat) (g : ftH), p + k = 61 → (∀ c, c ≠ 323 → g c = h0 c) → (∀ e', e' < e → ∀ p, p ≤ 60 → g 323 (61 * (2 * e' + 0) + p) = st0 n (h0 322) (h0 325) e' p ∧ g 323 (61 * (2 * e' + 1) + p) = st1 n (h0 325) e' p) → (∀ q, q < p → g 323 (61 * (2 * e + 0) + q) = 1000000000 ∧ g 323 (61 * (2 * e + 1) + q) = 1000000000) → ft_V k_Mo_startsLost 10 [some (.inr (.inr 309)), some (.inl (e : Int)), some (.inl (p : Int))] [] g R := by
      intro k
      induction k with
      | zero =>
        intro p g hp g1 g2 g3
        refine b_Mo_startsLost_10 ⟨fun _ => ⟨fun c => mid g g1 g2 (fun q hq => ⟨?_, (g3 q (by omega)).2⟩), fun c => ⟨⟨⟨by omega, by omega⟩, ⟨by omega, by omega⟩, by omega, by omega⟩, ⟨by omega, by omega⟩, fun h1 e1 => ?_⟩⟩, fun c => absurd (by omega) c⟩
        · rw [(g3 q (by omega)).1, if_neg (by omega)]
        · rw [show (61 * (2 * (e : Int) + 0) + 0).toNat = 61 * (2 * e + 0) + 0 by omega] at e1
          refine mid h1 (fun c hc => by rw [e1, ft_hs_ne c hc, g1 c hc]) (fun e' he' q hq => ?_) (fun q hq => ?_)
          · rw [e1, ft_hs_j (by omega), ft_hs_j (by omega)]
            exact g2 e' he' q hq
          · rw [e1, ft_hs_j (show 61 * (2 * e + 1) + q ≠ _ by omega)]
            refine ⟨?_, (g3 q (by omega)).2⟩
            by_cases t : q = 0
            · subst t
              rw [ft_hs_same, if_pos ⟨rfl, by omega⟩]
            · rw [ft_hs_j (by omega), (g3 q (by omega)).1, if_neg (by omega)]
      | succ k ihk =>
        intro p g hp g1 g2 g3
        refine b_Mo_startsLost_10 ⟨fun c => absurd c (by omega), fun _ => ⟨⟨⟨by omega, by omega⟩, ⟨by omega, by omega⟩, by omega, by omega⟩, ⟨by omega, by omega⟩, fun h2 e2 => ⟨⟨⟨by omega, by omega⟩, ⟨by omega, by omega⟩, by omega, by omega⟩, ⟨by omega, by omega⟩, fun h3 e3 => ?_⟩⟩⟩
        rw [show (61 * (2 * (e : Int) + 0) + (p : Int)).toNat = 61 * (2 * e + 0) + p by omega] at e2
        rw [show (61 * (2 * (e : Int) + 1) + (p : Int)).toNat = 61 * (2 * e + 1) + p by omega] at e3
        rw [inc1 (by omega)]
        refine ihk (p + 1) h3 (by omega) (fun c hc => by rw [e3, ft_hs_ne c hc, e2, ft_hs_ne c hc, g1 c hc]) (fun e' he' q hq => ?_) (fun q hq => ?_)
        · rw [e3, ft_hs_j (by omega), ft_hs_j (by omega), e2, ft_hs_j (by omega), ft_hs_j (by omega)]
          exact g2 e' he' q hq
        · rw [e3, ft_hs_j (show 61 * (2 * e + 0) + q ≠ _ by omega)]
          by_cases t : q = p
          · subst t
            rw [ft_hs_same, e2, ft_hs_same]
            exact ⟨rfl, rfl⟩
          · rw [ft_hs_j (by omega), e2, ft_hs_j (by omega), ft_hs_j (by omega)]
            exact g3 q (by omega)
    exact b_Mo_startsLost_2 ⟨fun c => absurd c (by omega), fun _ => inner 61 0 h (by omega) f hd (fun q hq => absurd hq (Nat.not_lt_zero q))⟩
theorem c_Mo_starts {E : List (Int × Int)} (h60 : E.length ≤ 60) {h : ftH} (h14 : h 309 14 = (E.length : Int)) : ft_C k_Mo_startsLost [.inr (.inr 309)] h (fun r h' => r = none ∧ tI h' E (h 322) (h 325) 0 ∧ ∀ c, c ≠ 323 → h' c = h c) := by
  refine ft_enter (n := 2) rfl (Nat.le_of_ble_eq_true rfl) rfl (b_Mo_startsLost_0 (v_Mo_starts h60 h14 (fun g k1 k2 => ⟨rfl, ⟨fun e he k hk p hp => ?_, fun p hp => ?_⟩, k2⟩) 65 0 h (by omega) (fun c _ => rfl) (fun e' he' => absurd he' (Nat.not_lt_zero e'))))
  · have hq := k1 e (by omega) p hp
    by_cases c : k = 0
    · subst c
      rw [hq.1, st0, if_neg (by omega)]
      by_cases d : p = 0 ∧ e < E.length ∧ h 325 e ≠ 1
      · rw [if_pos d]
        refine Or.inr ⟨Or.inr ⟨rfl, d.2.2, 0, ⟨[], ⟨d.1, rfl⟩, fun x hx => (List.not_mem_nil hx).elim, rfl⟩, by omega⟩, ?_⟩
        rintro x (⟨t, -⟩ | ⟨-, -, y, ⟨D, t1, -, t3⟩, t4⟩)
        · omega
        · rw [t1.2] at t3
          have : lD (h 322) [] = 0 := rfl
          omega
      · rw [if_neg d]
        refine Or.inl ⟨rfl, ?_⟩
        rintro x (⟨t, -⟩ | ⟨-, t0, y, ⟨D, t1, -, -⟩, -⟩)
        · omega
        · exact d ⟨t1.1, by omega, t0⟩
    · have : k = 1 := by omega
      subst this
      rw [hq.2, st1]
      by_cases d : p = 1 ∧ e < E.length ∧ h 325 e ≠ 0
      · rw [if_pos d]
        refine Or.inr ⟨Or.inl ⟨rfl, d.2.2, 0, ⟨[], ⟨rfl, rfl⟩, fun x hx => (List.not_mem_nil hx).elim, rfl⟩, by omega⟩, ?_⟩
        rintro x (⟨-, -, q, ⟨D, t1, -, t3⟩, -⟩ | ⟨t, -⟩)
        · rw [t1.2] at t3
          have : lD (h 322) [] = 0 := rfl
          omega
        · omega
      · rw [if_neg d]
        refine Or.inl ⟨rfl, ?_⟩
        rintro x (⟨-, t0, q, ⟨D, t1, -, -⟩, t4⟩ | ⟨t, -⟩)
        · exact d ⟨by rw [t4, t1.1], by omega, t0⟩
        · omega
  · have hq := (k1 64 (Nat.le_refl _) p hp).1
    rw [hq, st0]
    by_cases d : p = 0
    · rw [if_pos ⟨d, rfl⟩]
      refine Or.inr ⟨⟨[], ⟨d, rfl⟩, fun x hx => (List.not_mem_nil hx).elim, rfl⟩, ?_⟩
      rintro x ⟨D, t1, -, t3⟩
      rw [t1.2] at t3
      have : lD (h 322) [] = 0 := rfl
      omega
    · rw [if_neg (fun t => d t.1), if_neg (fun t => d t.1)]
      refine Or.inl ⟨rfl, ?_⟩
      rintro x ⟨D, t1, -, -⟩
      exact d t1.1
/-! joining -/
theorem c_Mo_under {V1 V0 : Nat → Int → Prop} (b1 : ∀ p, bV (V1 p)) (b0 : ∀ p, bV (V0 p)) {i k q : Nat} (hi : i ≤ 64) (hk1 : k ≤ 1) (hq : q ≤ 60) {h : ftH} (t1 : ∀ p, p ≤ 60 → mV (V1 p) (h 323 (61 * (2 * i + 1) + p))) (t0 : ∀ p, p ≤ 60 → mV (V0 p) (h 323 (61 * (2 * i + 0) + p))) : ft_C k_Mo_under [.inr (.inr 309), .inl (i : Int), .inl (k : Int), .inl (q : Int)] h (fun r h' => h' = h ∧ ∃ v, r = some (.inl v) ∧ mV (fun x => V1 q x ∨ ∃ y, V0 y x ∧ q = y + k) v) := by
  refine ft_enter (n := 3) rfl (Nat.le_of_ble_eq_true rfl) rfl (b_Mo_under_0 ⟨⟨⟨by omega, by omega⟩, ⟨by omega, by omega⟩, by omega, by omega⟩, ⟨by omega, by omega⟩, fun n3 e3 n4 e4 => ?_⟩)
  rw [show (61 * (2 * (i : Int) + 1) + (q : Int)).toNat = 61 * (2 * i + 1) + q by omega] at e3
  rw [ft_sub_eq ⟨by omega, by omega⟩] at e4
  have m1 := t1 q hq
  rw [← e3] at m1
  have r1 := mV_rng (b1 q) m1
  refine ⟨fun c => ⟨⟨⟨by omega, by omega⟩, ⟨by omega, by omega⟩, by omega, by omega⟩, ⟨by omega, by omega⟩, fun n7 e7 => ?_⟩, fun c => ?_⟩
  · obtain ⟨y, rfl⟩ := Int.eq_ofNat_of_zero_le c
    rw [show (61 * (2 * (i : Int) + 0) + (y : Int)).toNat = 61 * (2 * i + 0) + y by omega] at e7
    have m0 := t0 y (by omega)
    rw [← e7] at m0
    have hor := mV_or (b1 q) (b0 y) m1 m0
    have cong : ∀ x, (V1 q x ∨ V0 y x) ↔ (V1 q x ∨ ∃ y', V0 y' x ∧ q = y' + k) := fun x => by
      constructor
      · rintro (t | t)
        · exact Or.inl t
        · exact Or.inr ⟨y, t, by omega⟩
      · rintro (t | ⟨y', t, t2⟩)
        · exact Or.inl t
        · have : y' = y := by omega
          subst this
          exact Or.inr t
    exact ⟨fun d => ⟨rfl, n7, rfl, mV_congr cong (hor.1 d)⟩, fun d => ⟨rfl, n3, rfl, mV_congr cong (hor.2 d)⟩⟩
  · have cong : ∀ x, V1 q x ↔ (V1 q x ∨ ∃ y', V0 y' x ∧ q = y' + k) := fun x => by
      constructor
      · intro t; exact Or.inl t
      · rintro (t | ⟨y', t, t2⟩)
        · exact t
        · omega
    refine ⟨fun d => ⟨rfl, 1000000000, rfl, ?_⟩, fun d => ⟨rfl, n3, rfl, mV_congr cong m1⟩⟩
    rw [show (1000000000 : Int) = n3 by omega]
    exact mV_congr cong m1
theorem v_Mo_joins {V W : Nat → Int → Prop} (bVv : ∀ p, bV (V p)) {V1 V0 : Nat → Int → Prop} (b1 : ∀ p, bV (V1 p)) (b0 : ∀ p, bV (V0 p)) {i k u : Nat} (hW : ∀ q x, W q x ↔ V1 q x ∨ ∃ y, V0 y x ∧ q = y + k) (hi : i < 64) (hk1 : k ≤ 1) (hu : u ≤ 64) {h0 : ftH} (tv : ∀ p, p ≤ 60 → mV (V p) (h0 323 (61 * (2 * u + k) + p))) (t1 : ∀ p, p ≤ 60 → mV (V1 p) (h0 323 (61 * (2 * i + 1) + p))) (t0 : ∀ p, p ≤ 60 → mV (V0 p) (h0 323 (61 * (2 * i + 0) + p))) {R : Option ftV → ftH → Prop}
    (hk : ∀ h : ftH, (∀ p, p ≤ 60 → mV (vP V W p) (h 323 (61 * (2 * u + k) + p))) → (∀ j, ¬ (61 * (2 * u + k) ≤ j ∧ j ≤ 61 * (2 * u + k) + 60) → h 323 j = h0 323 j) → (∀ c, c ≠ 323 → c ≠ 324 → h c = h0 c) → R none h) :
    ft_V k_Mo_joins 10 [some (.inr (.inr 309)), some (.inl (i : Int)), some (.inl (k : Int)), some (.inl (u : Int)), some (.inl 0), none, none, none] [] h0 R := by
  have bW : ∀ q, bV (W q) := fun q x hx => by
    rcases (hW q x).mp hx with t | ⟨y, t, -⟩
    · exact b1 q x t
    · exact b0 y x t
  have copy : ∀ (g : ftH), (∀ c, c ≠ 324 → g c = h0 c) → (∀ p, p ≤ 60 → mV (vP V W p) (g 324 p)) → ∀ (m p : Nat) (h : ftH), p + m = 61 → (∀ c, c ≠ 323 → h c = g c) → (∀ q, q < p → h 323 (61 * (2 * u + k) + q) = g 324 q) → (∀ j, ¬ (61 * (2 * u + k) ≤ j ∧ j ≤ 61 * (2 * u + k) + 60) → h 323 j = h0 323 j) → ft_V k_Mo_joins 109 [some (.inr (.inr 309)), none, some (.inl (k : Int)), some (.inl (u : Int)), some (.inl (p : Int)), none, none, none] [] h R := by
    intro g g1 g2 m
    induction m with
    | zero =>
      intro p h hm f1 f2 f3
      exact b_Mo_joins_109 ⟨fun _ => hk h (fun q hq => by rw [f2 q (by omega)]; exact g2 q hq) f3 (fun c c1 c2 => by rw [f1 c c1, g1 c c2]), fun c => absurd (by omega) c⟩
    | succ m ih =>
      intro p h hm f1 f2 f3
      refine b_Mo_joins_109 ⟨fun c => absurd c (by omega), fun _ => ⟨⟨⟨by omega, by omega⟩, ⟨by omega, by omega⟩, by omega, by omega⟩, ⟨by omega, by omega⟩, ⟨by omega, by omega⟩, fun h1 e1 => ?_⟩⟩
      rw [show (61 * (2 * (u : Int) + (k : Int)) + (p : Int)).toNat = 61 * (2 * u + k) + p by omega, Int.toNat_natCast, f1 324 (by omega)] at e1
      rw [inc1 (by omega)]
      refine ih (p + 1) h1 (by omega) (fun c hc => by rw [e1, ft_hs_ne c hc, f1 c hc]) (fun q hq => ?_) (fun j hj => by rw [e1, ft_hs_j (by omega), f3 j hj])
      by_cases t : q = p
      · rw [t, e1, ft_hs_same]
      · rw [e1, ft_hs_j (by omega), f2 q (by omega)]
  have outer : ∀ (m p : Nat) (h : ftH), p + m = 61 → (∀ c, c ≠ 324 → h c = h0 c) → (∀ q, q < p → mV (vP V W q) (h 324 q)) → ft_V k_Mo_joins 10 [some (.inr (.inr 309)), some (.inl (i : Int)), some (.inl (k : Int)), some (.inl (u : Int)), some (.inl (p : Int)), none, none, none] [] h R := by
    intro m
    induction m with
    | zero =>
      intro p h hm f hd
      exact b_Mo_joins_10 ⟨fun _ => copy h f (fun q hq => hd q (by omega)) 61 0 h (by omega) (fun c _ => rfl) (fun q hq => absurd hq (Nat.not_lt_zero q)) (fun j _ => by rw [f 323 (by omega)]), fun c => absurd (by omega) c⟩
    | succ m ih =>
      intro p h hm f hd
      have inner : ∀ (n a : Nat) (best : Int), a + n = p + 1 → mV (fun x => ∃ q, q < a ∧ ∃ y z, V q y ∧ W (p - q) z ∧ x = y + z) best → (0 ≤ best ∧ best ≤ 1000000000) → ft_V k_Mo_joins 24 [some (.inr (.inr 309)), some (.inl (i : Int)), some (.inl (k : Int)), some (.inl (u : Int)), some (.inl (p : Int)), some (.inl best), some (.inl (a : Int)), none] [] h R := by
        intro n
        induction n with
        | zero =>
          intro a best ha hb hbr
          refine b_Mo_joins_24 ⟨fun _ => ⟨⟨by omega, by omega⟩, fun h1 e1 => ?_⟩, fun c => absurd (by omega) c⟩
          rw [Int.toNat_natCast] at e1
          rw [inc1 (by omega)]
          refine ih (p + 1) h1 (by omega) (fun c hc => by rw [e1, ft_hs_ne c hc, f c hc]) (fun q hq => ?_)
          by_cases t : q = p
          · rw [t, e1, ft_hs_same]
            refine mV_congr (fun x => ?_) hb
            constructor
            · rintro ⟨q, q1, y, z, q2, q3, q4⟩
              exact ⟨q, y, p - q, z, q2, q3, by omega, q4⟩
            · rintro ⟨a', y, b', z, q1, q2, q3, q4⟩
              refine ⟨a', by omega, y, z, q1, ?_, q4⟩
              rw [show p - a' = b' by omega]
              exact q2
          · rw [e1, ft_hs_j t]
            exact hd q (by omega)
        | succ n ihn =>
          intro a best ha hb hbr
          have mA := tv a (by omega)
          have rA := mV_rng (bVv a) mA
          have step : ∀ b' : Int, mV (fun x => (∃ q, q < a ∧ ∃ y z, V q y ∧ W (p - q) z ∧ x = y + z) ∨ ∃ y z, V a y ∧ W (p - a) z ∧ x = y + z) b' → (0 ≤ b' ∧ b' ≤ 1000000000) → ft_V k_Mo_joins 24 [some (.inr (.inr 309)), some (.inl (i : Int)), some (.inl (k : Int)), some (.inl (u : Int)), some (.inl (p : Int)), some (.inl b'), some (.inl ((a + 1 : Nat) : Int)), none] [] h R := by
            intro b' hb' hr'
            refine ihn (a + 1) b' (by omega) (mV_congr (fun x => ?_) hb') hr'
            constructor
            · rintro (⟨q, q1, q2⟩ | q2)
              · exact ⟨q, by omega, q2⟩
              · exact ⟨a, by omega, q2⟩
            · rintro ⟨q, q1, q2⟩
              by_cases t : q = a
              · subst t; exact Or.inr q2
              · exact Or.inl ⟨q, by omega, q2⟩
          have none' : (∀ x, ¬ ∃ y z, V a y ∧ W (p - a) z ∧ x = y + z) → mV (fun x => (∃ q, q < a ∧ ∃ y z, V q y ∧ W (p - q) z ∧ x = y + z) ∨ ∃ y z, V a y ∧ W (p - a) z ∧ x = y + z) best := fun hno => mV_congr (fun x => ⟨fun t => Or.inl t, fun t => t.elim id (fun t => absurd t (hno x))⟩) hb
          refine b_Mo_joins_24 ⟨fun c => absurd c (by omega), fun _ => ⟨⟨⟨by omega, by omega⟩, ⟨by omega, by omega⟩, by omega, by omega⟩, ⟨by omega, by omega⟩, ?_⟩⟩
          rw [ft_sub_eq ⟨by omega, by omega⟩, show (p : Int) - (a : Int) = ((p - a : Nat) : Int) by omega, show (61 * (2 * (u : Int) + (k : Int)) + (a : Int)).toNat = 61 * (2 * u + k) + a by omega, f 323 (by omega)]
          refine ⟨_, c_Mo_under b1 b0 (by omega) hk1 (show p - a ≤ 60 by omega) (fun q hq => by rw [f 323 (by omega)]; exact t1 q hq) (fun q hq => by rw [f 323 (by omega)]; exact t0 q hq), fun z5 h2 _ hw n6 e6 => ?_⟩
          obtain ⟨rfl, v, hv, mU⟩ := hw
          have hv := injI hv
          subst hv
          have mW : mV (W (p - a)) z5 := mV_congr (fun x => (hW _ x).symm) mU
          have rW := mV_rng (bW _) mW
          rw [ft_add_eq ⟨by omega, by omega⟩] at e6
          have hpr := mV_pair (bVv a) (bW _) mA mW
          rw [inc1 (by omega), f 323 (by omega)]
          refine ⟨⟨⟨by omega, by omega⟩, ⟨by omega, by omega⟩, by omega, by omega⟩, ⟨by omega, by omega⟩, fun d => ?_, fun d => ?_⟩
          · rcases hpr with ⟨q1, -⟩ | ⟨-, q2⟩
            · omega
            · exact step best (none' q2) hbr
          · rcases hpr with ⟨q1, q2, q3⟩ | ⟨q1, q2⟩
            · rw [← e6] at q3
              have bb1 : bV (fun x => ∃ q, q < a ∧ ∃ y z, V q y ∧ W (p - q) z ∧ x = y + z) → True := fun _ => trivial
              have hor : (n6 ≤ best → mV (fun x => (∃ q, q < a ∧ ∃ y z, V q y ∧ W (p - q) z ∧ x = y + z) ∨ ∃ y z, V a y ∧ W (p - a) z ∧ x = y + z) n6) ∧ (¬ n6 ≤ best → mV (fun x => (∃ q, q < a ∧ ∃ y z, V q y ∧ W (p - q) z ∧ x = y + z) ∨ ∃ y z, V a y ∧ W (p - a) z ∧ x = y + z) best) := by
                rcases hb with ⟨g1, g2⟩ | ⟨g1, g2⟩
                · rcases q3 with ⟨k1, k2⟩ | ⟨k1, k2⟩
                  · exact ⟨fun _ => Or.inl ⟨k1, fun x t => t.elim (g2 x) (k2 x)⟩, fun _ => Or.inl ⟨g1, fun x t => t.elim (g2 x) (k2 x)⟩⟩
                  · exact ⟨fun _ => Or.inr ⟨Or.inr k1, fun x t => t.elim (fun t => absurd t (g2 x)) (k2 x)⟩, fun c => by omega⟩
                · rcases q3 with ⟨k1, k2⟩ | ⟨k1, k2⟩
                  · omega
                  · refine ⟨fun c => Or.inr ⟨Or.inr k1, fun x t => ?_⟩, fun c => Or.inr ⟨Or.inl g1, fun x t => ?_⟩⟩
                    · rcases t with t | t
                      · have := g2 x t; omega
                      · exact k2 x t
                    · rcases t with t | t
                      · exact g2 x t
                      · have := k2 x t; omega
              refine ⟨fun c => ?_, fun c => step n6 (hor.1 (by omega)) (by omega)⟩
              by_cases t : n6 ≤ best
              · have : n6 = best := by omega
                rw [← this]
                exact step n6 (hor.1 t) (by omega)
              · exact step best (hor.2 t) hbr
            · exact ⟨fun _ => step best (none' q2) hbr, fun c => by omega⟩
      exact b_Mo_joins_10 ⟨fun c => absurd c (by omega), fun _ => inner (p + 1) 0 1000000000 (by omega) (Or.inl ⟨rfl, fun x => by rintro ⟨q, q1, -⟩; omega⟩) (by omega)⟩
  exact outer 61 0 h0 (by omega) (fun c _ => rfl) (fun q hq => absurd hq (Nat.not_lt_zero q))
