/-! the reference's hardware -/
def ft_mc (h : ftH) : List Int := [h 310 4, h 310 5, h 310 6, h 310 7, h 310 8]
theorem c_Mo_clears {h : ftH} (hn : 0 ≤ h 310 2 ∧ h 310 2 ≤ 80) (b6 : 0 ≤ h 310 6 ∧ h 310 6 ≤ 1100000000) (b8 : 0 ≤ h 310 8 ∧ h 310 8 ≤ 1100000000) : ft_C k_Mo_clears [.inr (.inr 309)] h (fun r h' => r = none ∧ (∀ c, c ≠ 310 → h' c = h c) ∧ (∀ j, j ≠ 2 → j ≠ 6 → j ≠ 8 → h' 310 j = h 310 j) ∧ h' 310 2 = 0 ∧ ft_mc h' = ctEmpty (h 310 2) (ft_mc h)) := by
  refine ft_enter (n := 0) rfl (Nat.le_of_ble_eq_true rfl) rfl (b_Mo_clears_0 ⟨fun c h1 e1 h2 e2 => ?_, fun c h3 e3 h4 e4 h5 e5 => ?_⟩)
  · rw [ft_add_eq ⟨by omega, by omega⟩] at e1
    have g : ∀ j, j ≠ 2 → j ≠ 6 → h2 310 j = h 310 j := fun j j1 j2 => by rw [e2, ft_hs_j j1, e1, ft_hs_j j2]
    have g6 : h2 310 6 = h 310 6 := by rw [e2, ft_hs_j (by omega), e1, ft_hs_same]; omega
    refine ⟨rfl, fun c hc => by rw [e2, ft_hs_ne c hc, e1, ft_hs_ne c hc], fun j j1 j2 _ => g j j1 j2, by rw [e2, ft_hs_same], ?_⟩
    unfold ctEmpty ft_mc
    simp only
    rw [if_neg (by omega), g 4 (by omega) (by omega), g 5 (by omega) (by omega), g6, g 7 (by omega) (by omega), g 8 (by omega) (by omega)]
  · rw [ft_add_eq ⟨by omega, by omega⟩] at e3
    have k6 : h3 310 6 = h 310 6 := by rw [e3, ft_hs_j (by omega)]
    have k2 : h3 310 2 = h 310 2 := by rw [e3, ft_hs_j (by omega)]
    rw [k6, k2, ft_add_eq ⟨by omega, by omega⟩] at e4
    have g : ∀ j, j ≠ 2 → j ≠ 6 → j ≠ 8 → h5 310 j = h 310 j := fun j j1 j2 j3 => by rw [e5, ft_hs_j j1, e4, ft_hs_j j2, e3, ft_hs_j j3]
    have g6 : h5 310 6 = h 310 6 + h 310 2 := by rw [e5, ft_hs_j (by omega), e4, ft_hs_same]
    have g8 : h5 310 8 = h 310 8 + 1 := by rw [e5, ft_hs_j (by omega), e4, ft_hs_j (by omega), e3, ft_hs_same]
    refine ⟨rfl, fun c hc => by rw [e5, ft_hs_ne c hc, e4, ft_hs_ne c hc, e3, ft_hs_ne c hc], g, by rw [e5, ft_hs_same], ?_⟩
    unfold ctEmpty ft_mc
    simp only
    rw [if_pos (by omega), g 4 (by omega) (by omega) (by omega), g 5 (by omega) (by omega) (by omega), g6, g 7 (by omega) (by omega) (by omega), g8]
theorem c_Mo_putsHardware {o : Nat} (ho : o = 270) {h : ftH} {n : Nat} (hn : h 310 2 = n) (h80 : n < 80) (b6 : 0 ≤ h 310 6 ∧ h 310 6 ≤ 1100000000) (hr : ∀ k, k < n → 0 ≤ h 310 (o + 3 * k + 1) ∧ h 310 (o + 3 * k + 1) ≤ 32) (hs : (ft_ml h 310 o n).Pairwise (fun a b => a.1 < b.1)) {v l x : Int} (hl : 0 ≤ l ∧ l ≤ 32) (hne : ∀ q ∈ ft_ml h 310 o n, q.1 ≠ 64 * pUn v + l) : ft_C k_Mo_putsHardware [.inr (.inr 309), .inl v, .inl l, .inl x] h (fun r h' => r = none ∧ (∀ c, c ≠ 310 → h' c = h c) ∧ (∀ j, j < 270 → j ≠ 2 → j ≠ 6 → h' 310 j = h 310 j) ∧ h' 310 2 = n + 1 ∧ h' 310 6 = h 310 6 + 1 ∧ ft_ml h' 310 o (n + 1) = insK (64 * pUn v + l) x (ft_ml h 310 o n) ∧ (∀ k, k < n + 1 → 0 ≤ h' 310 (o + 3 * k + 1) ∧ h' 310 (o + 3 * k + 1) ≤ 32)) := by
  subst ho
  refine ft_enter (n := 0) rfl (Nat.le_of_ble_eq_true rfl) rfl (b_Mo_putsHardware_0 ?_)
  rw [hn]
  refine ⟨_, c_Mo_putsIn (o := 270) (n := n) (by omega) hr hl hs hne, fun h1 hw h2 e2 h3 e3 => ?_⟩
  obtain ⟨-, f1, f2, f3, f4⟩ := hw
  have k2 : h1 310 2 = n := by rw [f2 2 (by omega), hn]
  rw [k2, ft_add_eq ⟨by omega, by omega⟩] at e2
  have k6 : h2 310 6 = h 310 6 := by rw [e2, ft_hs_j (by omega), f2 6 (by omega)]
  rw [k6, ft_add_eq ⟨by omega, by omega⟩] at e3
  have g : ∀ j, j ≠ 2 → j ≠ 6 → h3 310 j = h1 310 j := fun j j1 j2 => by rw [e3, ft_hs_j j2, e2, ft_hs_j j1]
  refine ⟨rfl, fun c hc => by rw [e3, ft_hs_ne c hc, e2, ft_hs_ne c hc, f1 c hc], fun j j0 j1 j2 => by rw [g j j1 j2, f2 j (by omega)], by rw [e3, ft_hs_j (by omega), e2, ft_hs_same], by rw [e3, ft_hs_same], ?_, fun k hk => by rw [g _ (by omega) (by omega)]; exact f4 k hk⟩
  rw [← f3]
  exact ft_ml_mv (fun j hj => g _ (by omega) (by omega))
theorem c_Mo_takesHardware {o : Nat} (ho : o = 270) {h : ftH} {n a : Nat} (hn : h 310 2 = n) (h80 : n ≤ 80) (ha : a < n) (b6 : 0 ≤ h 310 6 ∧ h 310 6 ≤ 1100000000) (hr : ∀ k, k < n → 0 ≤ h 310 (o + 3 * k + 1) ∧ h 310 (o + 3 * k + 1) ≤ 32) : ft_C k_Mo_takesHardware [.inr (.inr 309), .inl (a : Int)] h (fun r h' => r = none ∧ (∀ c, c ≠ 310 → h' c = h c) ∧ (∀ j, j < 270 → j ≠ 2 → j ≠ 6 → h' 310 j = h 310 j) ∧ h' 310 2 = ((n - 1 : Nat) : Int) ∧ h' 310 6 = h 310 6 + 1 ∧ ft_ml h' 310 o (n - 1) = (ft_ml h 310 o n).eraseIdx a ∧ (∀ k, k < n - 1 → 0 ≤ h' 310 (o + 3 * k + 1) ∧ h' 310 (o + 3 * k + 1) ≤ 32)) := by
  subst ho
  refine ft_enter (n := 0) rfl (Nat.le_of_ble_eq_true rfl) rfl (b_Mo_takesHardware_0 ?_)
  rw [hn]
  refine ⟨_, c_Mo_takesOut (o := 270) (n := n) (by omega) ha hr, fun h1 hw h2 e2 h3 e3 => ?_⟩
  obtain ⟨-, f1, f2, f3, f4⟩ := hw
  have k2 : h1 310 2 = n := by rw [f2 2 (by omega), hn]
  rw [k2, ft_sub_eq ⟨by omega, by omega⟩] at e2
  have k6 : h2 310 6 = h 310 6 := by rw [e2, ft_hs_j (by omega), f2 6 (by omega)]
  rw [k6, ft_add_eq ⟨by omega, by omega⟩] at e3
  have g : ∀ j, j ≠ 2 → j ≠ 6 → h3 310 j = h1 310 j := fun j j1 j2 => by rw [e3, ft_hs_j j2, e2, ft_hs_j j1]
  refine ⟨rfl, fun c hc => by rw [e3, ft_hs_ne c hc, e2, ft_hs_ne c hc, f1 c hc], fun j j0 j1 j2 => by rw [g j j1 j2, f2 j (by omega)], by rw [e3, ft_hs_j (by omega), e2, ft_hs_same]; omega, by rw [e3, ft_hs_same], ?_, fun k hk => by rw [g _ (by omega) (by omega)]; exact f4 k hk⟩
  rw [← f3]
  exact ft_ml_mv (fun j hj => g _ (by omega) (by omega))
/-- the key of a value and a length -/
def kOf (v l : Int) : Int := 64 * pUn v + l
theorem kOf_ln {v l : Int} (hl : 0 ≤ l ∧ l ≤ 32) : kOf v l % 64 = l ∧ kOf v l / 64 = pUn v := by unfold kOf; omega
theorem kOf_pK {v l : Int} (hl : 0 ≤ l ∧ l ≤ 32) (ha : pUn v % pSz l = 0) : pK (kOf v l) := by
  have h1 := kOf_ln (v := v) hl
  have h2 := pUn_rng v
  refine ⟨by unfold kOf; omega, by omega, ?_⟩
  rw [h1.1, h1.2]
  exact ha
/-- the reference's test of 'inside' -/
theorem pIns_ct {v l k : Int} (hl : 0 ≤ l ∧ l ≤ 32) (ha : pUn v % pSz l = 0) : pIns (kOf v l) k = true ↔ ¬ k % 64 < l ∧ pUn v / pSz l = k / 64 / pSz l := by
  have h1 := kOf_ln (v := v) hl
  have h2 := pCt_iff (k := kOf v l) (x := k / 64) (kOf_pK hl ha)
  unfold pCt pIn at h2
  rw [pIns_iff]
  rw [h1.1, h1.2] at h2 ⊢
  rw [h2]
  omega
theorem v_Mo_routeChanged {o : Nat} (ho : o = 270) {h0 : ftH} {n0 : Nat} (hn0 : h0 310 2 = n0) (h80 : n0 ≤ 80) (b6 : 0 ≤ h0 310 6 ∧ h0 310 6 ≤ 1000000000) (hr0 : ∀ k, k < n0 → 0 ≤ h0 310 (o + 3 * k + 1) ∧ h0 310 (o + 3 * k + 1) ≤ 32) {v l : Int} (hl : 0 ≤ l ∧ l ≤ 32) (ha : pUn v % pSz l = 0) {R : Option ftV → ftH → Prop}
    (hk : ∀ (h : ftH) (n : Nat), (∀ c, c ≠ 310 → h c = h0 c) → (∀ j, j < 270 → j ≠ 2 → j ≠ 6 → h 310 j = h0 310 j) → h 310 2 = n → n ≤ n0 → (∀ k, k < n → 0 ≤ h 310 (o + 3 * k + 1) ∧ h 310 (o + 3 * k + 1) ≤ 32) → h 310 6 = h0 310 6 + ((n0 : Int) - n) → ft_ml h 310 o n = (ft_ml h0 310 o n0).filter (fun q => !pIns (kOf v l) q.1) → ft_V k_Mo_routeChanged 20 [some (.inr (.inr 309)), some (.inl v), some (.inl l), some (.inl (-1))] [] h R) :
    ∀ (i : Nat) (h : ftH) (n : Nat), i ≤ n0 → (∀ c, c ≠ 310 → h c = h0 c) → (∀ j, j < 270 → j ≠ 2 → j ≠ 6 → h 310 j = h0 310 j) → h 310 2 = n → n ≤ n0 → (∀ k, k < n → 0 ≤ h 310 (o + 3 * k + 1) ∧ h 310 (o + 3 * k + 1) ≤ 32) → h 310 6 = h0 310 6 + ((n0 : Int) - n) → ft_ml h 310 o n = (ft_ml h0 310 o n0).take i ++ ((ft_ml h0 310 o n0).drop i).filter (fun q => !pIns (kOf v l) q.1) → ft_V k_Mo_routeChanged 20 [some (.inr (.inr 309)), some (.inl v), some (.inl l), some (.inl ((i : Int) - 1))] [] h R := by
  intro i
  induction i with
  | zero =>
    intro h n hi hf hj h2 hnn hr h6 hlist
    exact hk h n hf hj h2 hnn hr h6 (by simpa using hlist)
  | succ i ih =>
    intro h n hi hf hj h2 hnn hr h6 hlist
    have e0 : ((i + 1 : Nat) : Int) - 1 = (i : Int) := by omega
    rw [e0]
    have hg0 := ft_ml_get (h := h0) (c := 310) (o := o) (n := n0) (i := i) (by omega)
    have hlt0 : i < (ft_ml h0 310 o n0).length := by rw [ft_ml_len]; omega
    have hin : i < n := by
      have := congrArg List.length hlist
      rw [ft_ml_len, List.length_append, List.length_take, ft_ml_len] at this
      omega
    have hgi : (ft_ml h 310 o n)[i]? = (ft_ml h0 310 o n0)[i]? := by
      rw [hlist, List.getElem?_append_left (by rw [List.length_take, ft_ml_len]; omega), List.getElem?_take_of_lt (by omega)]
    rw [ft_ml_get hin, hg0] at hgi
    have hkey : 64 * pUn (h 310 (o + 3 * i)) + h 310 (o + 3 * i + 1) = 64 * pUn (h0 310 (o + 3 * i)) + h0 310 (o + 3 * i + 1) := congrArg (fun o : Option (Int × Int) => (o.getD (0, 0)).1) hgi
    have hri := hr i hin
    have hr0i := hr0 i (by omega)
    have kv : (64 * pUn (h 310 (o + 3 * i)) + h 310 (o + 3 * i + 1)) / 64 = pUn (h 310 (o + 3 * i)) := by omega
    have kl : (64 * pUn (h 310 (o + 3 * i)) + h 310 (o + 3 * i + 1)) % 64 = h 310 (o + 3 * i + 1) := by omega
    have hct := pIns_ct (v := v) (l := l) (k := 64 * pUn (h 310 (o + 3 * i)) + h 310 (o + 3 * i + 1)) hl ha
    rw [kv, kl] at hct
    have hdrop : (ft_ml h0 310 o n0).drop i = (64 * pUn (h0 310 (o + 3 * i)) + h0 310 (o + 3 * i + 1), h0 310 (o + 3 * i + 2)) :: (ft_ml h0 310 o n0).drop (i + 1) := by
      have := (List.getElem?_eq_some_iff.mp hg0).2
      rw [← this, List.getElem_cons_drop]
    have htake := take_succ_get _ i _ hg0
    have stay : ¬ (¬ h 310 (o + 3 * i + 1) < l ∧ pUn v / pSz l = pUn (h 310 (o + 3 * i)) / pSz l) → ft_V k_Mo_routeChanged 20 [some (.inr (.inr 309)), some (.inl v), some (.inl l), some (.inl ((i : Int) - 1))] [] h R := fun hno => by
      refine ih h n (by omega) hf hj h2 hnn hr h6 ?_
      rw [hdrop, List.filter_cons, if_pos, hlist, htake, List.append_assoc]
      · rfl
      · have : pIns (kOf v l) (64 * pUn (h 310 (o + 3 * i)) + h 310 (o + 3 * i + 1)) = false := by
          cases hp : pIns (kOf v l) (64 * pUn (h 310 (o + 3 * i)) + h 310 (o + 3 * i + 1)) with
          | false => rfl
          | true => exact absurd (hct.mp hp) hno
        rw [hkey] at this
        simp [this]
    refine b_Mo_routeChanged_20 ⟨fun c => absurd c (by omega), fun c => ⟨⟨by omega, by omega⟩, ?_⟩⟩
    rw [Int.toNat_natCast, ft_add_eq ⟨by omega, by omega⟩, show (i : Int) + -1 = (i : Int) - 1 by omega, show 271 + 3 * i = o + 3 * i + 1 by omega, show 270 + 3 * i = o + 3 * i by omega]
    refine ⟨fun d => stay (fun q => q.1 d), fun d => ⟨⟨by omega, by omega⟩, hl, fun e => stay (fun q => e q.2), fun e => ⟨_, c_Mo_takesHardware ho h2 (by omega) hin (by omega) hr, fun h4 hw => ?_⟩⟩⟩
    obtain ⟨-, f1, f2, f3, f4, f5, f6⟩ := hw
    refine ih h4 (n - 1) (by omega) (fun c hc => by rw [f1 c hc, hf c hc]) (fun j j0 j1 j2 => by rw [f2 j j0 j1 j2, hj j j0 j1 j2]) f3 (by omega) f6 (by rw [f4, h6]; omega) ?_
    have hp := hct.mpr ⟨d, e⟩
    rw [hkey] at hp
    rw [f5, hlist, hdrop, List.filter_cons, if_neg (by simp [hp]), htake, List.append_assoc]
    have hl1 : ((ft_ml h0 310 o n0).take i).length = i := by rw [List.length_take, ft_ml_len]; omega
    rw [List.eraseIdx_append_of_length_le (by omega), hl1, Nat.sub_self]
    rfl
