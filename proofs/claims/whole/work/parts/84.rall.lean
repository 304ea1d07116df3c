/-! the reference lays all out -/
theorem c_Mo_joins {E : List (Int × Int)} (h60 : E.length ≤ 60) {ht c : Nat → Int} (hn : ∀ i, 0 ≤ ht i) (hU : sm ht E.length ≤ 40000000) {m i : Nat} (hm : m + 1 ≤ E.length) (hi : i = E.length - (m + 1)) {u k : Nat} (hk1 : k ≤ 1) (hu : u ≤ 64) {V : Nat → Int → Prop} (bVv : ∀ p, bV (V p)) {h : ftH} (h21 : h 321 i = (u : Int)) (tv : ∀ p, p ≤ 60 → mV (V p) (h 323 (61 * (2 * u + k) + p))) (t1 : ∀ p, p ≤ 60 → mV (vE E ht c m i 1 p) (h 323 (61 * (2 * i + 1) + p))) (t0 : ∀ p, p ≤ 60 → mV (vE E ht c m i 0 p) (h 323 (61 * (2 * i + 0) + p))) : ft_C k_Mo_joins [.inr (.inr 309), .inl (i : Int), .inl (k : Int)] h (fun r h' => r = none ∧ (∀ p, p ≤ 60 → mV (vP V (vU E ht c m i k) p) (h' 323 (61 * (2 * u + k) + p))) ∧ (∀ j, ¬ (61 * (2 * u + k) ≤ j ∧ j ≤ 61 * (2 * u + k) + 60) → h' 323 j = h 323 j) ∧ ∀ c, c ≠ 323 → c ≠ 324 → h' c = h c) := by
  refine ft_enter (n := 5) rfl (Nat.le_of_ble_eq_true rfl) rfl (b_Mo_joins_0 ⟨⟨by omega, by omega⟩, fun n1 e1 => ?_⟩)
  rw [Int.toNat_natCast, h21] at e1
  rw [e1]
  exact v_Mo_joins (W := vU E ht c m i k) bVv (V1 := vE E ht c m i 1) (V0 := vE E ht c m i 0) (fun p => vE_b hn hU (by omega) (by omega) 1 p) (fun p => vE_b hn hU (by omega) (by omega) 0 p) (fun q x => Iff.rfl) (by omega) hk1 hu tv t1 t0 (fun g k1 k2 k3 => ⟨rfl, k1, k2, k3⟩)
def upO (E : List (Int × Int)) (i : Nat) : Nat := if parI E i < 0 then 64 else (parI E i).toNat
theorem v_Mo_laysLost {E : List (Int × Int)} (h60 : E.length ≤ 60) {ht dc : Nat → Int} (hn : ∀ i, 0 ≤ ht i) (hU : sm ht E.length ≤ 40000000) {h0 : ftH} (h21 : ∀ i, i < E.length → h0 321 i = (upO E i : Int)) {R : Option ftV → ftH → Prop} (hk : ∀ h : ftH, tI h E ht dc E.length → (∀ c, c ≠ 323 → c ≠ 324 → h c = h0 c) → R none h) :
    ∀ (i m : Nat) (h : ftH), i + m = E.length → tI h E ht dc m → (∀ c, c ≠ 323 → c ≠ 324 → h c = h0 c) → ft_V k_Mo_laysLost 11 [some (.inr (.inr 309)), some (.inl ((i : Int) - 1))] [] h R := by
  intro i
  induction i with
  | zero =>
    intro m h hm ht' f
    exact b_Mo_laysLost_11 ⟨fun _ => by rw [show m = E.length by omega] at ht'; exact hk h ht' f, fun c => absurd (by omega) c⟩
  | succ i ih =>
    intro m h hm ht' f
    have hi : i = E.length - (m + 1) := by omega
    have hr := parI_rng E i
    rw [show ((i + 1 : Nat) : Int) - 1 = (i : Int) by push_cast; omega]
    have h21i : h 321 i = (upO E i : Int) := by rw [f 321 (by omega) (by omega)]; exact h21 i (by omega)
    have t1 := ht'.1 i (by omega) 1 (by omega)
    have t0 := ht'.1 i (by omega) 0 (by omega)
    refine b_Mo_laysLost_11 ⟨fun c => absurd c (by omega), fun _ => ?_⟩
    by_cases c : parI E i < 0
    · have eu : upO E i = 64 := if_pos c
      have ep : parI E i = -1 := by omega
      refine ⟨_, c_Mo_joins h60 hn hU (show m + 1 ≤ E.length by omega) hi (k := 0) (u := 64) (by omega) (by omega) (V := vF E ht dc m (-1) 0) (fun p => vF_b hn hU (by omega) (by omega) 0 p) (by rw [h21i, eu]) ht'.2 t1 t0, fun h1 hw => ?_⟩
      obtain ⟨-, u1, u2, u3⟩ := hw
      rw [Int.toNat_natCast, u3 321 (by omega) (by omega), h21i, eu, dec0 (by omega)]
      refine ⟨⟨by omega, by omega⟩, fun _ => ih (m + 1) h1 (by omega) ⟨fun e he k hk' p hp => ?_, fun p hp => ?_⟩ (fun c c1 c2 => by rw [u3 c c1 c2, f c c1 c2]), fun q => absurd rfl q⟩
      · rw [u2 _ (by omega)]
        exact mV_congr (fun x => (vE_miss hi (by omega)).symm) (ht'.1 e (by omega) k hk' p hp)
      · exact mV_congr (fun x => (vF_hit hi ep).symm) (u1 p hp)
    · obtain ⟨u, hup⟩ := Int.eq_ofNat_of_zero_le (show 0 ≤ parI E i by omega)
      have eu : upO E i = u := by unfold upO; rw [if_neg c, hup, Int.toNat_natCast]
      refine ⟨_, c_Mo_joins h60 hn hU (show m + 1 ≤ E.length by omega) hi (k := 0) (u := u) (by omega) (by omega) (V := vE E ht dc m u 0) (fun p => vE_b hn hU (by omega) (by omega) 0 p) (by rw [h21i, eu]) (ht'.1 u (by omega) 0 (by omega)) t1 t0, fun h1 hw => ?_⟩
      obtain ⟨-, u1, u2, u3⟩ := hw
      rw [Int.toNat_natCast, u3 321 (by omega) (by omega), h21i, eu, dec0 (by omega)]
      refine ⟨⟨by omega, by omega⟩, fun q => absurd q (by omega), fun _ => ⟨_, c_Mo_joins h60 hn hU (show m + 1 ≤ E.length by omega) hi (k := 1) (u := u) (by omega) (by omega) (V := vE E ht dc m u 1) (fun p => vE_b hn hU (by omega) (by omega) 1 p) (by rw [u3 321 (by omega) (by omega), h21i, eu]) (fun p hp => by rw [u2 _ (by omega)]; exact ht'.1 u (by omega) 1 (by omega) p hp) (fun p hp => by rw [u2 _ (by omega)]; exact t1 p hp) (fun p hp => by rw [u2 _ (by omega)]; exact t0 p hp), fun h2 hw2 => ?_⟩⟩
      obtain ⟨-, w1, w2, w3⟩ := hw2
      refine ih (m + 1) h2 (by omega) ⟨fun e he k hk' p hp => ?_, fun p hp => ?_⟩ (fun c c1 c2 => by rw [w3 c c1 c2, u3 c c1 c2, f c c1 c2])
      · by_cases q : e = u
        · subst q
          by_cases t : k = 0
          · subst t
            rw [w2 _ (by omega)]
            exact mV_congr (fun x => (vE_hit hi hup).symm) (u1 p hp)
          · have : k = 1 := by omega
            subst this
            exact mV_congr (fun x => (vE_hit hi hup).symm) (w1 p hp)
        · rw [w2 _ (by omega), u2 _ (by omega)]
          exact mV_congr (fun x => (vE_miss hi (by omega)).symm) (ht'.1 e (by omega) k hk' p hp)
      · rw [w2 _ (by omega), u2 _ (by omega)]
        exact mV_congr (fun x => (vF_miss hi (by omega)).symm) (ht'.2 p hp)
/-- the table of all entries -/
def tabN (h : ftH) (E : List (Int × Int)) (ht c : Nat → Int) : Prop := ∀ p, p ≤ 60 → mV (vF E ht c E.length (-1) 0 p) (h 323 (7808 + p))
theorem c_Mo_laysLost {E : List (Int × Int)} (h60 : E.length ≤ 60) {ht : Nat → Int} (hn : ∀ i, 0 ≤ ht i) (hU : sm ht E.length ≤ 40000000) {h : ftH} (h14 : h 309 14 = (E.length : Int)) (h21 : ∀ i, i < E.length → h 321 i = (upO E i : Int)) (h22 : h 322 = ht) : ft_C k_Mo_laysLost [.inr (.inr 309)] h (fun r h' => r = none ∧ tabN h' E ht (h 325) ∧ ∀ c, c ≠ 323 → c ≠ 324 → h' c = h c) := by
  refine ft_enter (n := 1) rfl (Nat.le_of_ble_eq_true rfl) rfl (b_Mo_laysLost_0 ⟨_, c_Mo_starts h60 h14, fun h1 hw n3 e3 => ?_⟩)
  obtain ⟨-, u1, u2⟩ := hw
  rw [u2 309 (by omega), h14, ft_sub_eq ⟨by omega, by omega⟩] at e3
  rw [h22] at u1
  rw [e3]
  exact v_Mo_laysLost h60 hn hU (h0 := h1) (fun i hi => by rw [u2 321 (by omega)]; exact h21 i hi) (fun g k1 k2 => ⟨rfl, k1.2, fun c c1 c2 => by rw [k2 c c1 c2, u2 c c1]⟩) E.length 0 h1 (by omega) u1 (fun c _ _ => rfl)
theorem v_Mo_lostBy {h : ftH} (hb : ∀ p, p ≤ 60 → h 323 (7808 + p) ≤ 1000000000) {cap : Nat} (hc : cap ≤ 60) {R : Option ftV → ftH → Prop} (hk : ∀ b : Int, (∀ p, p ≤ cap → b ≤ h 323 (7808 + p)) → (∃ p, p ≤ cap ∧ b = h 323 (7808 + p)) → R (some (.inl b)) h) :
    ∀ (m p : Nat) (b : Int), p + m = cap + 1 → b ≤ 1000000000 → (∀ q, q < p → b ≤ h 323 (7808 + q)) → (b = 1000000000 ∨ ∃ q, q < p ∧ b = h 323 (7808 + q)) → ft_V k_Mo_lostBy 5 [some (.inr (.inr 309)), some (.inl (cap : Int)), some (.inl b), some (.inl (p : Int))] [] h R := by
  intro m
  induction m with
  | zero =>
    intro p b hm h9 h1 h2
    refine b_Mo_lostBy_5 ⟨fun _ => hk b (fun q hq => h1 q (by omega)) ?_, fun c => absurd (by omega) c⟩
    rcases h2 with h2 | ⟨q, q1, q2⟩
    · refine ⟨0, by omega, ?_⟩
      have := h1 0 (by omega)
      have := hb 0 (by omega)
      omega
    · exact ⟨q, by omega, q2⟩
  | succ m ih =>
    intro p b hm h9 h1 h2
    refine b_Mo_lostBy_5 ⟨fun c => absurd c (by omega), fun _ => ?_⟩
    rw [show (61 * (2 * (64 : Int) + 0) + (p : Int)).toNat = 7808 + p by omega, inc1 (by omega)]
    refine ⟨⟨⟨by omega, by omega⟩, ⟨by omega, by omega⟩, by omega, by omega⟩, ⟨by omega, by omega⟩, fun c => ih (p + 1) b (by omega) h9 (fun q hq => ?_) ?_, fun c => ⟨⟨⟨by omega, by omega⟩, ⟨by omega, by omega⟩, by omega, by omega⟩, ⟨by omega, by omega⟩, fun n5 e5 => ?_⟩⟩
    · by_cases t : q = p
      · rw [t]; exact c
      · exact h1 q (by omega)
    · rcases h2 with h2 | ⟨q, q1, q2⟩
      · exact Or.inl h2
      · exact Or.inr ⟨q, by omega, q2⟩
    · rw [e5]
      refine ih (p + 1) _ (by omega) (by omega) (fun q hq => ?_) (Or.inr ⟨p, by omega, rfl⟩)
      by_cases t : q = p
      · rw [t]; exact Int.le_refl _
      · have := h1 q (by omega); omega
theorem c_Mo_lostBy {h : ftH} (hb : ∀ p, p ≤ 60 → h 323 (7808 + p) ≤ 1000000000) {cap : Nat} (hc : cap ≤ 60) : ft_C k_Mo_lostBy [.inr (.inr 309), .inl (cap : Int)] h (fun r h' => h' = h ∧ ∃ b : Int, r = some (.inl b) ∧ (∀ p, p ≤ cap → b ≤ h 323 (7808 + p)) ∧ ∃ p, p ≤ cap ∧ b = h 323 (7808 + p)) :=
  ft_enter (n := 2) rfl (Nat.le_of_ble_eq_true rfl) rfl (b_Mo_lostBy_0 (v_Mo_lostBy hb hc (fun b k1 k2 => ⟨rfl, b, rfl, k1, k2⟩) (cap + 1) 0 1000000000 (by omega) (by omega) (fun q hq => absurd hq (Nat.not_lt_zero q)) (Or.inl rfl)))
theorem v_Mo_fewest {h : ftH} {cap : Nat} (hc : cap ≤ 60) (h3 : h 310 3 = (cap : Int)) {x : Nat} (hx : x ≤ cap) (hx1 : h 323 (7808 + x) = h 309 21) (hx2 : ∀ q, q < x → h 323 (7808 + q) ≠ h 309 21) {R : Option ftV → ftH → Prop} (hk : R (some (.inl (x : Int))) h) :
    ∀ m p : Nat, p + m = x → ft_V k_Mo_fewestPlaces 2 [some (.inr (.inr 309)), some (.inl (p : Int))] [] h R := by
  intro m
  induction m with
  | zero =>
    intro p hm
    have e : p = x := by omega
    subst e
    refine b_Mo_fewestPlaces_2 ⟨fun c => absurd c (by omega), fun _ => ?_⟩
    rw [show (61 * (2 * (64 : Int) + 0) + (p : Int)).toNat = 7808 + p by omega]
    exact ⟨⟨⟨by omega, by omega⟩, ⟨by omega, by omega⟩, by omega, by omega⟩, ⟨by omega, by omega⟩, fun _ => hk, fun c => absurd hx1 c⟩
  | succ m ih =>
    intro p hm
    refine b_Mo_fewestPlaces_2 ⟨fun c => absurd c (by omega), fun _ => ?_⟩
    rw [show (61 * (2 * (64 : Int) + 0) + (p : Int)).toNat = 7808 + p by omega, inc1 (by omega)]
    exact ⟨⟨⟨by omega, by omega⟩, ⟨by omega, by omega⟩, by omega, by omega⟩, ⟨by omega, by omega⟩, fun c => absurd c (hx2 p (by omega)), fun _ => ih (p + 1) (by omega)⟩
/-! entryFor: as longest does it -/
theorem v_Mo_entryFor {h : ftH} {E : List (Int × Int)} (hE : enI h E) (h64 : E.length ≤ 64) {x b : Int} {R : Option ftV → ftH → Prop} (hk : ∀ r : Int, isLg E (pUn x) b r → R (some (.inl r)) h) :
    ∀ (m i : Nat) (r : Int), i + m = E.length → isLg (E.take i) (pUn x) b r → ft_V k_Mo_entryFor 6 [some (.inr (.inr 309)), some (.inl x), some (.inl b), some (.inl r), some (.inl (i : Int))] [] h R := by
  intro m
  induction m with
  | zero =>
    intro i r hm hl
    rw [List.take_of_length_le (by omega)] at hl
    exact b_Mo_entryFor_6 ⟨fun _ => hk r hl, fun c => absurd (by rw [hE.1]; omega) c⟩
  | succ m ih =>
    intro i r hm hl
    have hiE : i < E.length := by omega
    have ha := enI_at hE hiE
    have hz := hE.2.2 i hiE
    have hget := kAt_get hiE
    have ht := take_succ_get E i _ hget
    have hct : pCt (kAt E i) (pUn x) ↔ pUn (h 318 i) / pSz (h 319 i) = pUn x / pSz (h 319 i) := by
      unfold pCt
      have e1 : kAt E i / 64 = pUn (h 318 i) := ha.2.2.1
      have e2 : kAt E i % 64 = h 319 i := ha.2.2.2
      rw [e1, e2]
    have hlen : kAt E i % 64 = h 319 i := ha.2.2.2
    have old : ∀ (j : Nat) (s : Int × Int), (E.take i ++ [(kAt E i, vAt E i)])[j]? = some s → (j < i ∧ (E.take i)[j]? = some s) ∨ (j = i ∧ s = (kAt E i, vAt E i)) := fun j s hs => by
      by_cases q : j < i
      · rw [List.getElem?_append_left (by rw [List.length_take]; omega)] at hs
        exact Or.inl ⟨q, hs⟩
      · rw [List.getElem?_append_right (by rw [List.length_take]; omega), List.length_take, show min i E.length = i by omega] at hs
        have : j - i = 0 := by
          have := (List.getElem?_eq_some_iff.mp hs).1
          rw [List.length_singleton] at this
          omega
        rw [this] at hs
        simp only [List.getElem?_cons_zero, Option.some.injEq] at hs
        exact Or.inr ⟨by omega, hs.symm⟩
    have keep : (¬ (kAt E i % 64 < b ∧ pCt (kAt E i) (pUn x)) ∨ (0 ≤ r ∧ kAt E i % 64 ≤ h 319 r.toNat)) → ft_V k_Mo_entryFor 6 [some (.inr (.inr 309)), some (.inl x), some (.inl b), some (.inl r), some (.inl ((i + 1 : Nat) : Int))] [] h R := by
      intro hno
      refine ih (i + 1) r (by omega) ?_
      rw [ht]
      rcases hl with ⟨h1, h2⟩ | ⟨p, q, h1, h2, h3, h4⟩
      · refine Or.inl ⟨h1, fun s hs => ?_⟩
        rcases List.mem_append.mp hs with t | t
        · exact h2 s t
        · rw [List.mem_singleton] at t
          subst t
          rcases hno with w | w
          · exact w
          · omega
      · have hpi : p < i := by have := (List.getElem?_eq_some_iff.mp h2).1; rw [List.length_take] at this; omega
        have hq : kAt E p = q.1 := by
          rw [List.getElem?_take_of_lt hpi] at h2
          exact (kAt_of h2).1
        refine Or.inr ⟨p, q, h1, by rw [List.getElem?_append_left (by rw [List.length_take]; omega)]; exact h2, h3, fun j s hs hj => ?_⟩
        rcases old j s hs with ⟨t1, t2⟩ | ⟨t1, t2⟩
        · exact h4 j s t2 hj
        · subst t2
          rcases hno with w | w
          · exact absurd hj w
          · rw [h1, Int.toNat_natCast] at w
            have := (enI_at hE (show p < E.length by omega)).2.2.2
            unfold kN at this
            rw [hq] at this
            simp only
            exact ⟨by omega, fun t3 => by omega⟩
    have take' : (kAt E i % 64 < b ∧ pCt (kAt E i) (pUn x)) → (r < 0 ∨ (0 ≤ r ∧ h 319 r.toNat < kAt E i % 64)) → ft_V k_Mo_entryFor 6 [some (.inr (.inr 309)), some (.inl x), some (.inl b), some (.inl (i : Int)), some (.inl ((i + 1 : Nat) : Int))] [] h R := by
      intro hyes hbet
      refine ih (i + 1) (i : Int) (by omega) ?_
      rw [ht]
      refine Or.inr ⟨i, (kAt E i, vAt E i), rfl, by rw [List.getElem?_append_right (by rw [List.length_take]; omega), List.length_take, show i - min i E.length = 0 by omega]; rfl, hyes, fun j s hs hj => ?_⟩
      rcases old j s hs with ⟨t1, t2⟩ | ⟨t1, t2⟩
      · simp only
        rcases hl with ⟨h1, h2⟩ | ⟨p, q, h1, h2, h3, h4⟩
        · exact absurd hj (h2 s (List.mem_of_getElem? t2))
        · have hpi : p < i := by have := (List.getElem?_eq_some_iff.mp h2).1; rw [List.length_take] at this; omega
          have hq : kAt E p = q.1 := by
            rw [List.getElem?_take_of_lt hpi] at h2
            exact (kAt_of h2).1
          have h5 := (h4 j s t2 hj).1
          have := (enI_at hE (show p < E.length by omega)).2.2.2
          unfold kN at this
          rw [hq] at this
          rcases hbet with w | w
          · omega
          · rw [h1, Int.toNat_natCast] at w
            exact ⟨by omega, fun _ => by omega⟩
      · subst t2
        exact ⟨Int.le_refl _, fun t3 => by omega⟩
    have hrr : r = -2 ∨ (0 ≤ r ∧ r < i) := by
      rcases hl with ⟨h1, -⟩ | ⟨p, q, h1, h2, -⟩
      · exact Or.inl h1
      · have := (List.getElem?_eq_some_iff.mp h2).1
        rw [List.length_take] at this
        exact Or.inr ⟨by omega, by omega⟩
    refine b_Mo_entryFor_6 ⟨fun c => absurd c (by rw [hE.1]; omega), fun _ => ?_⟩
    rw [Int.toNat_natCast, inc1 (by omega)]
    refine ⟨⟨by omega, by omega⟩, fun c => keep (Or.inl (fun q => by omega)), fun c => ⟨⟨by omega, by omega⟩, ⟨by omega, by omega⟩, hz, fun d => keep (Or.inl (fun q => d (hct.mp q.2))), fun d => ⟨fun e => take' ⟨by omega, hct.mpr d⟩ (Or.inl e), fun e => ⟨⟨by omega, by omega⟩, ⟨by omega, by omega⟩, fun g => keep (Or.inr ⟨by omega, by omega⟩), fun g => take' ⟨by omega, hct.mpr d⟩ (Or.inr ⟨by omega, by omega⟩)⟩⟩⟩⟩
theorem c_Mo_entryFor {h : ftH} {E : List (Int × Int)} (hE : enI h E) (h64 : E.length ≤ 64) {x b : Int} : ft_C k_Mo_entryFor [.inr (.inr 309), .inl x, .inl b] h (fun q h' => h' = h ∧ ∃ r : Int, q = some (.inl r) ∧ isLg E (pUn x) b r) := by
  refine ft_enter (n := 2) rfl (Nat.le_of_ble_eq_true rfl) rfl (b_Mo_entryFor_0 (fun n1 e1 => ?_))
  rw [e1]
  exact v_Mo_entryFor hE h64 (fun r hr => ⟨rfl, r, rfl, hr⟩) E.length 0 (-2) (by omega) (Or.inl ⟨rfl, by simp⟩)
