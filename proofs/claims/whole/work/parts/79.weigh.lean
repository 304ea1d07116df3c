/-! the class weighs all entries -/
theorem Rw_fr {h h' : ftH} {E : List (Int × Int)} {ht : Nat → Int} {m : Nat} {e : Int} {d : Nat} (hr : Rw h E ht m e d) (f1 : h' 286 d = h 286 d) (f2 : ∀ k, k ≤ 1 → h' (149 + (2 * d + k)) = h (149 + (2 * d + k)) ∧ h' (218 + (2 * d + k)) = h (218 + (2 * d + k))) : Rw h' E ht m e d := by
  refine ⟨by rw [f1]; exact hr.1, fun k hk p hp => ?_⟩
  rw [(f2 k hk).1, (f2 k hk).2]
  exact hr.2 k hk p hp
theorem zrow_fr {h h' : ftH} {d : Nat} (hr : zrow h d) (f1 : h' 286 d = h 286 d) (f2 : ∀ k, k ≤ 1 → h' (149 + (2 * d + k)) = h (149 + (2 * d + k)) ∧ h' (218 + (2 * d + k)) = h (218 + (2 * d + k))) : zrow h' d := by
  refine ⟨by rw [f1]; exact hr.1, fun k hk => ?_⟩
  rw [(f2 k hk).1, (f2 k hk).2]
  exact hr.2 k hk
theorem chI_kid {h : ftH} {E : List (Int × Int)} (hE : lOk E) {ht : Nat → Int} {m i : Nat} (hm : m + 1 ≤ E.length) (hi : i = E.length - (m + 1)) (hc : chI h E ht m) : Rw h E ht m (i : Int) (dep E i + 1) ∧ Rw h E ht m (parI E i) (dep E i) := by
  have hiE : i < E.length := by omega
  have hdl := dep_le hE i hiE
  have hkn := kS_rng hE hiE
  have hpi := parI_rng E i
  constructor
  · by_cases c : ∃ j, E.length - m ≤ j ∧ j < E.length ∧ parI E j = (i : Int)
    · obtain ⟨j, j1, j2, j3⟩ := c
      have := hc.1 j j1 j2 (by omega)
      rw [j3, (dep_par hE j2).2 i j3] at this
      exact this
    · refine Rw_zero (by omega) (hc.2 _ (by omega) (fun j j1 j2 j3 q => ?_)) (fun j j1 j2 q => c ⟨j, j1, j2, q⟩)
      have hne : parI E j ≠ (i : Int) := fun q2 => c ⟨j, j1, j2, q2⟩
      have := (dep_geo hE (i := i) (j := j) (by omega) (by omega) j2).1
      omega
  · by_cases c : ∃ j, E.length - m ≤ j ∧ j < E.length ∧ parI E j = parI E i
    · obtain ⟨j, j1, j2, j3⟩ := c
      have h1 := hc.1 j j1 j2 (by omega)
      have h2 : dep E j = dep E i := by
        by_cases d : parI E i < 0
        · rw [(dep_par hE hiE).1 d, (dep_par hE j2).1 (by omega)]
        · obtain ⟨p, hp⟩ := Int.eq_ofNat_of_zero_le (show 0 ≤ parI E i by omega)
          rw [(dep_par hE hiE).2 p hp, (dep_par hE j2).2 p (by omega)]
      rw [j3, h2] at h1
      exact h1
    · refine Rw_zero (by omega) (hc.2 _ (by omega) (fun j j1 j2 j3 q => ?_)) (fun j j1 j2 q => c ⟨j, j1, j2, q⟩)
      by_cases d : parI E j = (i : Int)
      · have := (dep_par hE j2).2 i d
        omega
      · have h1 := (dep_geo hE (i := i) (j := j) (by omega) (by omega) j2).2 (by omega)
        exact c ⟨j, j1, j2, h1.symm⟩
theorem chI_step {h h' : ftH} {E : List (Int × Int)} (hE : lOk E) {ht : Nat → Int} {m i : Nat} (hm : m + 1 ≤ E.length) (hi : i = E.length - (m + 1)) (hc : chI h E ht m) (w : Rw h' E ht (m + 1) (parI E i) (dep E i)) (z : zrow h' (dep E i + 1)) (f1 : ∀ j, j ≠ dep E i → j ≠ dep E i + 1 → h' 286 j = h 286 j) (f2 : ∀ d k, d < 34 → k ≤ 1 → d ≠ dep E i → d ≠ dep E i + 1 → h' (149 + (2 * d + k)) = h (149 + (2 * d + k)) ∧ h' (218 + (2 * d + k)) = h (218 + (2 * d + k))) : chI h' E ht (m + 1) := by
  have hiE : i < E.length := by omega
  rw [chI, ← hi]
  refine ⟨fun j j1 j2 j3 => ?_, fun d hd hno => ?_⟩
  · by_cases c : j = i
    · rw [c]; exact w
    · have hg := dep_geo hE (i := i) (j := j) (by omega) (by omega) j2
      by_cases e : dep E i = dep E j
      · rw [← hg.2 e, ← e]
        exact w
      · have h1 := hc.1 j (by omega) j2 (by omega)
        have hjl := dep_le hE j j2
        have hjn := kS_rng hE j2
        have h2 : Rw h' E ht m (parI E j) (dep E j) := Rw_fr h1 (f1 _ (by omega) (by omega)) (fun k hk => f2 _ k (by omega) hk (by omega) (by omega))
        have hne : parI E (E.length - (m + 1)) ≠ parI E j := fun q => by
          rw [← hi] at q
          apply e
          by_cases d : parI E i < 0
          · rw [(dep_par hE hiE).1 d, (dep_par hE j2).1 (by omega)]
          · obtain ⟨p, hp⟩ := Int.eq_ofNat_of_zero_le (show 0 ≤ parI E i by omega)
            rw [(dep_par hE hiE).2 p hp, (dep_par hE j2).2 p (by omega)]
        have ed : dom E.length (parI E) (m + 1) (parI E j) = dom E.length (parI E) m (parI E j) := by rw [dom, if_neg hne]
        refine ⟨by rw [ed]; exact h2.1, fun k hk p hp => ?_⟩
        rw [ed] at hp
        exact bst_congr (fun D => (cF_miss hne).symm) (h2.2 k hk p hp)
  · by_cases e1 : d = dep E i + 1
    · rw [e1]; exact z
    · by_cases e2 : d = dep E i
      · exact absurd e2.symm (hno i (Nat.le_refl i) hiE (parI_rng E i).2)
      · refine zrow_fr (hc.2 d hd (fun j j1 j2 j3 q => ?_)) (f1 d e2 e1) (fun k hk => f2 d k hd hk e2 e1)
        by_cases c : parI E j = (i : Int)
        · have := (dep_par hE j2).2 i c
          omega
        · exact hno j (by omega) j2 (by omega) q
theorem dec0 {p : Nat} (h : p < 100000) : ft_add (p : Int) (-1) = (p : Int) - 1 := by
  rw [ft_add_eq ⟨by omega, by omega⟩]
  omega
theorem v_Ch_weigh {E : List (Int × Int)} (hE : lOk E) (h60 : E.length ≤ 60) {ht : Nat → Int} (hn : ∀ i, 0 ≤ ht i) (hU : sm ht E.length ≤ 40000000) {h0 : ftH} (h44 : ∀ i, i < E.length → h0 144 i = ht i) (hdep : ∀ i, i < E.length → h0 139 i = (dep E i : Int)) {R : Option ftV → ftH → Prop} (hk : ∀ h : ftH, chI h E ht E.length → (∀ c, c < 149 ∨ 289 ≤ c → h c = h0 c) → R none h) :
    ∀ (k m : Nat) (h : ftH), k + m = E.length → chI h E ht m → (∀ c, c < 149 ∨ 289 ≤ c → h c = h0 c) → ft_V k_Ch_weigh 23 [some (.inr (.inr 143)), some (.inr (.inr 136)), none, some (.inl ((k : Int) - 1)), none, none, none] [] h R := by
  have sh136 : ft_sh 136 = some (.inl 2) := by decide +kernel
  have l139 : ft_ln (136 + 3) = 60 := by decide +kernel
  intro k
  induction k with
  | zero =>
    intro m h hm hc f
    exact b_Ch_weigh_23 sh136 ⟨fun _ => by rw [show m = E.length by omega] at hc; exact hk h hc f, fun c => absurd (by omega) c⟩
  | succ i ih =>
    intro m h hm hc f
    have hiE : i < E.length := by omega
    have hi : i = E.length - (m + 1) := by omega
    have hdl := dep_le hE i hiE
    have hkn := kS_rng hE hiE
    have hpi := parI_rng E i
    obtain ⟨w1, w2⟩ := chI_kid hE (by omega) hi hc
    have hp : ∀ j, parI E j < j := fun j => (parI_rng E j).2
    have len1 := dom_len hp (show m + 1 ≤ E.length by omega) (e := parI E i) (by rw [← hi]; exact hpi.2)
    have ed : dom E.length (parI E) (m + 1) (parI E i) = i :: (dom E.length (parI E) m (i : Int) ++ dom E.length (parI E) m (parI E i)) := by rw [dom, if_pos (by rw [← hi]), ← hi]
    rw [ed, List.length_cons, List.length_append] at len1
    have h44i : h 144 i = ht i := by rw [f 144 (by omega)]; exact h44 i hiE
    rw [show ((i + 1 : Nat) : Int) - 1 = (i : Int) by push_cast; omega]
    refine b_Ch_weigh_23 sh136 ⟨fun c => absurd c (by omega), fun _ => ⟨⟨by omega, by rw [l139]; omega⟩, fun n1 e1 => ?_⟩⟩
    rw [Int.toNat_natCast, f (136 + 3) (by omega), show 136 + 3 = 139 from rfl, hdep i hiE] at e1
    have e1 : n1 = (dep E i : Int) := by omega
    rw [e1, inc1 (by omega), Int.toNat_natCast, w1.1]
    refine ⟨⟨by omega, by omega⟩, fun n2 e2 => ?_⟩
    have e2 : n2 = (((dom E.length (parI E) m (i : Int)).length + 1 : Nat) : Int) := by rw [e2, inc1 (by omega)]; omega
    rw [e2]
    obtain ⟨L1, hL1⟩ : ∃ L1, L1 = (dom E.length (parI E) m (i : Int)).length := ⟨_, rfl⟩
    obtain ⟨M1, hM1⟩ : ∃ M1, M1 = (dom E.length (parI E) m (parI E i)).length := ⟨_, rfl⟩
    have w21 : h 286 (dep E i) = (M1 : Int) := by rw [w2.1, hM1]
    have hone0 := v_Ch_one hE h60 hn hU (show m + 1 ≤ E.length by omega) hi (k := 0) (by omega) h44i w1 hM1 w21 (fun p hp' => w2.2 0 (by omega) p (by omega)) (R := fun r h' => r = none ∧ (∀ p, p ≤ M1 + ((dom E.length (parI E) m (i : Int)).length + 1) → bst ht (cF E.length (parI E) (m + 1) (parI E i) 0 p) (h' (149 + (2 * dep E i + 0)) p) (h' (218 + (2 * dep E i + 0)) p)) ∧ ∀ c, c ≠ 287 → c ≠ 288 → c ≠ 149 + (2 * dep E i + 0) → c ≠ 218 + (2 * dep E i + 0) → h' c = h c) (fun g q1 q2 => ⟨rfl, q1, q2⟩)
    refine b_Ch_weigh_61 sh136 ⟨fun c => absurd c (by omega), fun _ => ?_⟩
    rw [inc1 (by omega)]
    obtain ⟨R3, c3, hh3⟩ := hone0
    refine ⟨R3, c3, fun h3 hw3 => ?_⟩
    obtain ⟨R5, c5, hh5⟩ := hh3 h3 hw3
    refine ⟨R5, c5, fun h4 hw4 => ?_⟩
    obtain ⟨-, u1, u2⟩ := hh5 h4 hw4
    have w1' : Rw h4 E ht m (i : Int) (dep E i + 1) := Rw_fr w1 (by rw [u2 286 (by omega) (by omega) (by omega) (by omega)]) (fun k hk' => ⟨u2 _ (by omega) (by omega) (by omega) (by omega), u2 _ (by omega) (by omega) (by omega) (by omega)⟩)
    have hone1 := v_Ch_one hE h60 hn hU (show m + 1 ≤ E.length by omega) hi (k := 1) (by omega) (h := h4) (by rw [u2 144 (by omega) (by omega) (by omega) (by omega)]; exact h44i) w1' hM1 (by rw [u2 286 (by omega) (by omega) (by omega) (by omega)]; exact w21) (fun p hp' => by rw [u2 _ (by omega) (by omega) (by omega) (by omega), u2 (218 + (2 * dep E i + 1)) (by omega) (by omega) (by omega) (by omega)]; exact w2.2 1 (by omega) p (by omega)) (R := fun r h' => r = none ∧ (∀ p, p ≤ M1 + ((dom E.length (parI E) m (i : Int)).length + 1) → bst ht (cF E.length (parI E) (m + 1) (parI E i) 1 p) (h' (149 + (2 * dep E i + 1)) p) (h' (218 + (2 * dep E i + 1)) p)) ∧ ∀ c, c ≠ 287 → c ≠ 288 → c ≠ 149 + (2 * dep E i + 1) → c ≠ 218 + (2 * dep E i + 1) → h' c = h4 c) (fun g q1 q2 => ⟨rfl, q1, q2⟩)
    rw [show ft_add 0 1 = ((1 : Nat) : Int) by rw [ft_add_eq ⟨by omega, by omega⟩]; rfl]
    refine b_Ch_weigh_61 sh136 ⟨fun c => absurd c (by omega), fun _ => ?_⟩
    rw [inc1 (by omega)]
    obtain ⟨R3', c3', hh3'⟩ := hone1
    refine ⟨R3', c3', fun h5 hw5 => ?_⟩
    obtain ⟨R5', c5', hh5'⟩ := hh3' h5 hw5
    refine ⟨R5', c5', fun h6 hw6 => ?_⟩
    obtain ⟨-, v1, v2⟩ := hh5' h6 hw6
    rw [show ft_add ((1 : Nat) : Int) 1 = ((2 : Nat) : Int) from inc1 (by omega)]
    refine b_Ch_weigh_61 sh136 ⟨fun _ => ⟨⟨by omega, by omega⟩, ⟨by omega, by omega⟩, fun h7 e7 => ?_⟩, fun c => absurd (by omega) c⟩
    have x86 : h6 286 = h 286 := by rw [v2 286 (by omega) (by omega) (by omega) (by omega), u2 286 (by omega) (by omega) (by omega) (by omega)]
    rw [Int.toNat_natCast, x86, w21, ft_add_eq ⟨by omega, by omega⟩] at e7
    rw [inc1 (by omega), dec0 (by omega)]
    refine ⟨_, c_Ch_empty (d := dep E i + 1) (by omega), fun h8 hw8 => ?_⟩
    obtain ⟨-, z1, z2, z3⟩ := hw8
    have r7 : ∀ c, c ≠ 286 → h7 c = h6 c := fun c hc' => by rw [e7]; exact ft_hs_ne c hc'
    have old : ∀ c, c ≠ 286 → c ≠ 287 → c ≠ 288 → ¬ (149 + 2 * (dep E i + 1) ≤ c ∧ c ≤ 149 + (2 * (dep E i + 1) + 1)) → ¬ (218 + 2 * (dep E i + 1) ≤ c ∧ c ≤ 218 + (2 * (dep E i + 1) + 1)) → c ≠ 149 + (2 * dep E i + 0) → c ≠ 218 + (2 * dep E i + 0) → c ≠ 149 + (2 * dep E i + 1) → c ≠ 218 + (2 * dep E i + 1) → h8 c = h c := fun c a1 a2 a3 a4 a5 a6 a7 a8 a9 => by
      rw [z3 c a1 a4 a5, r7 c a1, v2 c a2 a3 a8 a9, u2 c a2 a3 a6 a7]
    refine ih (m + 1) h8 (by omega) (chI_step hE (by omega) hi hc ⟨?_, fun k hk' p hp' => ?_⟩ z1 (fun j j1 j2 => ?_) (fun d k d1 k1 d2 d3 => ?_)) (fun c hc' => by rw [old c (by omega) (by omega) (by omega) (by omega) (by omega) (by omega) (by omega) (by omega) (by omega), f c hc'])
    · rw [z2 _ (by omega), e7, ft_hs_same, ed, List.length_cons, List.length_append, ← hL1, ← hM1]
      omega
    · rw [ed, List.length_cons, List.length_append] at hp'
      have hpp : p ≤ M1 + ((dom E.length (parI E) m (i : Int)).length + 1) := by omega
      by_cases q : k = 0
      · subst q
        rw [z3 _ (by omega) (by omega) (by omega), z3 (218 + (2 * dep E i + 0)) (by omega) (by omega) (by omega), r7 _ (by omega), r7 (218 + (2 * dep E i + 0)) (by omega), v2 _ (by omega) (by omega) (by omega) (by omega), v2 (218 + (2 * dep E i + 0)) (by omega) (by omega) (by omega) (by omega)]
        exact u1 p hpp
      · have : k = 1 := by omega
        subst this
        rw [z3 _ (by omega) (by omega) (by omega), z3 (218 + (2 * dep E i + 1)) (by omega) (by omega) (by omega), r7 _ (by omega), r7 (218 + (2 * dep E i + 1)) (by omega)]
        exact v1 p hpp
    · rw [z2 j j2, e7, ft_hs_j j1, x86]
    · exact ⟨old _ (by omega) (by omega) (by omega) (by omega) (by omega) (by omega) (by omega) (by omega) (by omega), old _ (by omega) (by omega) (by omega) (by omega) (by omega) (by omega) (by omega) (by omega) (by omega)⟩
theorem v_Ch_weigh2 {n : Int} {h0 : ftH} {R : Option ftV → ftH → Prop} (hk : ∀ h : ftH, (∀ d, d < 34 → zrow h d) → (∀ c, c < 149 ∨ 287 ≤ c → h c = h0 c) → ft_V k_Ch_weigh 23 [some (.inr (.inr 143)), some (.inr (.inr 136)), none, some (.inl (ft_sub n 1)), none, none, none] [] h R) :
    ∀ (m d : Nat) (h : ftH), d + m = 34 → (∀ x, x < d → zrow h x) → (∀ c, c < 149 ∨ 287 ≤ c → h c = h0 c) → ft_V k_Ch_weigh 2 [some (.inr (.inr 143)), some (.inr (.inr 136)), some (.inl n), some (.inl (d : Int)), none, none, none] [] h R := by
  have sh136 : ft_sh 136 = some (.inl 2) := by decide +kernel
  intro m
  induction m with
  | zero =>
    intro d h hm hz f
    refine b_Ch_weigh_2 sh136 ⟨fun _ n1 e1 => ?_, fun c => absurd (by omega) c⟩
    rw [e1]
    exact hk h (fun x hx => hz x (by omega)) f
  | succ m ih =>
    intro d h hm hz f
    refine b_Ch_weigh_2 sh136 ⟨fun c => absurd c (by omega), fun _ => ⟨_, c_Ch_empty (d := d) (by omega), fun h1 hw => ?_⟩⟩
    obtain ⟨-, z1, z2, z3⟩ := hw
    rw [inc1 (by omega)]
    refine ih (d + 1) h1 (by omega) (fun x hx => ?_) (fun c hc => by rw [z3 c (by omega) (by omega) (by omega), f c hc])
    by_cases e : x = d
    · rw [e]; exact z1
    · exact zrow_fr (hz x (by omega)) (z2 x e) (fun k hk' => ⟨z3 _ (by omega) (by omega) (by omega), z3 _ (by omega) (by omega) (by omega)⟩)
theorem c_Ch_weigh {E : List (Int × Int)} (hE : lOk E) (h60 : E.length ≤ 60) {ht : Nat → Int} (hn : ∀ i, 0 ≤ ht i) (hU : sm ht E.length ≤ 40000000) {h : ftH} (h44 : ∀ i, i < E.length → h 144 i = ht i) (hdep : ∀ i, i < E.length → h 139 i = (dep E i : Int)) : ft_C k_Ch_weigh [.inr (.inr 143), .inr (.inr 136), .inl (E.length : Int)] h (fun r h' => r = none ∧ chI h' E ht E.length ∧ ∀ c, c < 149 ∨ 289 ≤ c → h' c = h c) := by
  have sh136 : ft_sh 136 = some (.inl 2) := by decide +kernel
  refine ft_enter (n := 4) rfl (Nat.le_of_ble_eq_true rfl) rfl (b_Ch_weigh_0 sh136 (v_Ch_weigh2 (fun g z f => ?_) 34 0 h (by omega) (fun x hx => absurd hx (Nat.not_lt_zero x)) (fun c _ => rfl)))
  rw [ft_sub_eq ⟨by omega, by omega⟩]
  refine v_Ch_weigh hE h60 hn hU (h0 := g) (fun i hi => by rw [f 144 (by omega)]; exact h44 i hi) (fun i hi => by rw [f 139 (by omega)]; exact hdep i hi) (fun g' k1 k2 => ⟨rfl, k1, fun c hc => by rw [k2 c hc, f c (by omega)]⟩) E.length 0 g (by omega) ⟨fun j j1 j2 => by omega, fun d hd _ => z d hd⟩ (fun c _ => rfl)
/-- the rows of all entries -/
theorem chI_top {h : ftH} {E : List (Int × Int)} (hE : lOk E) {ht : Nat → Int} (hc : chI h E ht E.length) : Rw h E ht E.length (-1) 0 := by
  by_cases c : E.length = 0
  · exact Rw_zero (Nat.le_refl _) (hc.2 0 (by omega) (fun j _ hj => by omega)) (fun j _ hj => by omega)
  · have hp := parI_rng E 0
    have h1 := hc.1 0 (by omega) (by omega) (by omega)
    have e : parI E 0 = -1 := by omega
    rw [(dep_par hE (show 0 < E.length by omega)).1 (by omega), e] at h1
    exact h1
