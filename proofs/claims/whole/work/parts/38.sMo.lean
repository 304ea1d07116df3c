/-! THE REFERENCE'S ROWS: threes (value, length, hop) and twos (address, count) at a place of a cell -/
def ft_ml (h : ftH) (c o n : Nat) : List (Int × Int) := (List.range n).map fun k => (64 * pUn (h c (o + 3 * k)) + h c (o + 3 * k + 1), h c (o + 3 * k + 2))
def ft_gl (h : ftH) (c o n : Nat) : List (Int × Int) := (List.range n).map fun k => (pUn (h c (o + 2 * k)), h c (o + 2 * k + 1))
/-- what the reference's state at a place of a cell holds -/
def ft_ma (h : ftH) (c o : Nat) : ftS := (h c (o + 3), ft_ml h c (o + 10) (h c o).toNat, ft_ml h c (o + 270) (h c (o + 2)).toNat, ft_gl h c (o + 190) (h c (o + 1)).toNat, [h c (o + 4), h c (o + 5), h c (o + 6), h c (o + 7), h c (o + 8)])
theorem ft_ml_len {h : ftH} {c o n : Nat} : (ft_ml h c o n).length = n := by simp [ft_ml]
theorem ft_gl_len {h : ftH} {c o n : Nat} : (ft_gl h c o n).length = n := by simp [ft_gl]
theorem ft_ml_get {h : ftH} {c o n i : Nat} (hi : i < n) : (ft_ml h c o n)[i]? = some (64 * pUn (h c (o + 3 * i)) + h c (o + 3 * i + 1), h c (o + 3 * i + 2)) := by simp [ft_ml, List.getElem?_range hi]
theorem ft_gl_get {h : ftH} {c o n i : Nat} (hi : i < n) : (ft_gl h c o n)[i]? = some (pUn (h c (o + 2 * i)), h c (o + 2 * i + 1)) := by simp [ft_gl, List.getElem?_range hi]
theorem ft_ml_none {h : ftH} {c o n i : Nat} (hi : n ≤ i) : (ft_ml h c o n)[i]? = none := List.getElem?_eq_none (by rw [ft_ml_len]; exact hi)
theorem ft_gl_none {h : ftH} {c o n i : Nat} (hi : n ≤ i) : (ft_gl h c o n)[i]? = none := List.getElem?_eq_none (by rw [ft_gl_len]; exact hi)
theorem ft_ml_mv {h h' : ftH} {c c' o o' n : Nat} (hf : ∀ j, j < 3 * n → h' c' (o' + j) = h c (o + j)) : ft_ml h' c' o' n = ft_ml h c o n := by
  apply List.map_congr_left
  intro k hk
  have := List.mem_range.mp hk
  rw [hf (3 * k) (by omega), show o' + 3 * k + 1 = o' + (3 * k + 1) by omega, hf (3 * k + 1) (by omega), show o' + 3 * k + 2 = o' + (3 * k + 2) by omega, hf (3 * k + 2) (by omega)]
  rfl
theorem ft_gl_mv {h h' : ftH} {c c' o o' n : Nat} (hf : ∀ j, j < 2 * n → h' c' (o' + j) = h c (o + j)) : ft_gl h' c' o' n = ft_gl h c o n := by
  apply List.map_congr_left
  intro k hk
  have := List.mem_range.mp hk
  rw [hf (2 * k) (by omega), show o' + 2 * k + 1 = o' + (2 * k + 1) by omega, hf (2 * k + 1) (by omega)]
  rfl
/-- the raw numbers fit: sizes, lengths -/
def ft_mz (h : ftH) (c o : Nat) : Prop := (0 ≤ h c o ∧ h c o ≤ 60) ∧ (0 ≤ h c (o + 2) ∧ h c (o + 2) ≤ 80) ∧ (0 ≤ h c (o + 1) ∧ h c (o + 1) ≤ 40) ∧ (∀ k : Nat, (k : Int) < h c o → 0 ≤ h c (o + 10 + 3 * k + 1) ∧ h c (o + 10 + 3 * k + 1) ≤ 32) ∧ (∀ k : Nat, (k : Int) < h c (o + 2) → 0 ≤ h c (o + 270 + 3 * k + 1) ∧ h c (o + 270 + 3 * k + 1) ≤ 32)
theorem ft_ma_mv {h h' : ftH} {c c' o o' : Nat} (hz : ft_mz h c o) (hf : ∀ j, j < 520 → h' c' (o' + j) = h c (o + j)) : ft_ma h' c' o' = ft_ma h c o ∧ ft_mz h' c' o' := by
  obtain ⟨z1, z2, z3, z4, z5⟩ := hz
  have f0 : h' c' o' = h c o := hf 0 (by omega)
  refine ⟨?_, ?_⟩
  · unfold ft_ma
    rw [f0, hf 1 (by omega), hf 2 (by omega), hf 3 (by omega), hf 4 (by omega), hf 5 (by omega), hf 6 (by omega), hf 7 (by omega), hf 8 (by omega)]
    have m1 : ft_ml h' c' (o' + 10) (h c o).toNat = ft_ml h c (o + 10) (h c o).toNat := ft_ml_mv (fun j hj => by rw [Nat.add_assoc, Nat.add_assoc]; exact hf (10 + j) (by omega))
    have m2 : ft_ml h' c' (o' + 270) (h c (o + 2)).toNat = ft_ml h c (o + 270) (h c (o + 2)).toNat := ft_ml_mv (fun j hj => by rw [Nat.add_assoc, Nat.add_assoc]; exact hf (270 + j) (by omega))
    have m3 : ft_gl h' c' (o' + 190) (h c (o + 1)).toNat = ft_gl h c (o + 190) (h c (o + 1)).toNat := ft_gl_mv (fun j hj => by rw [Nat.add_assoc, Nat.add_assoc]; exact hf (190 + j) (by omega))
    rw [m1, m2, m3]
  · unfold ft_mz
    rw [f0, hf 1 (by omega), hf 2 (by omega)]
    refine ⟨z1, z2, z3, fun k hk => ?_, fun k hk => ?_⟩
    · have := z4 k hk
      rw [show o' + 10 + 3 * k + 1 = o' + (10 + 3 * k + 1) by omega, hf (10 + 3 * k + 1) (by omega), show o + (10 + 3 * k + 1) = o + 10 + 3 * k + 1 by omega]
      exact this
    · have := z5 k hk
      rw [show o' + 270 + 3 * k + 1 = o' + (270 + 3 * k + 1) by omega, hf (270 + 3 * k + 1) (by omega), show o + (270 + 3 * k + 1) = o + 270 + 3 * k + 1 by omega]
      exact this
/-! keeping and undoing -/
theorem v_Mo_keepsPast_54 {h0 : ftH} {m : Nat} (hm : m < 8) (hpm : h0 309 4 = m) {R : Option ftV → ftH → Prop} (hk : ∀ h' : ftH, (∀ k, k ≠ 309 → k ≠ 311 → h' k = h0 k) → (∀ j, j ≠ 4 → j ≠ 20 → h' 309 j = h0 309 j) → h' 309 4 = m + 1 → h' 309 20 = 0 → (∀ j, j < 520 → h' 311 (520 * m + j) = h0 310 j) → (∀ j, j < 520 * m → h' 311 j = h0 311 j) → R none h') :
    ∀ (n i : Nat) (h : ftH), i + n = 520 → (∀ k, k ≠ 311 → h k = h0 k) → (∀ j, j < i → h 311 (520 * m + j) = h0 310 j) → (∀ j, j < 520 * m → h 311 j = h0 311 j) → ft_V k_Mo_keepsPast 54 [some (.inr (.inr 309)), some (.inl (i : Int))] [] h R := by
  intro n
  induction n with
  | zero =>
    intro i h hi hf h1 h2
    refine b_Mo_keepsPast_54 ⟨fun c g1 e1 g2 e2 => ?_, fun c => absurd (by omega) c⟩
    rw [hf 309 (by omega), hpm, ft_add_eq ⟨by omega, by omega⟩] at e1
    have q : ∀ k, k ≠ 309 → g2 k = h k := fun k hk' => by rw [e2, ft_hs_ne k hk', e1, ft_hs_ne k hk']
    refine hk g2 (fun k k1 k2 => by rw [q k k1, hf k k2]) (fun j j1 j2 => by rw [e2, ft_hs_j j2, e1, ft_hs_j j1, hf 309 (by omega)]) (by rw [e2, ft_hs_j (by omega), e1, ft_hs_same]) (by rw [e2, ft_hs_same]) (fun j hj => by rw [q 311 (by omega)]; exact h1 j (by omega)) (fun j hj => by rw [q 311 (by omega)]; exact h2 j hj)
  | succ n ih =>
    intro i h hi hf h1 h2
    refine b_Mo_keepsPast_54 ⟨fun c => absurd c (by omega), fun c => ⟨⟨by omega, by omega⟩, ?_⟩⟩
    rw [hf 309 (by omega), hpm, ft_mul_eq ⟨by omega, by omega⟩, ft_add_eq ⟨by omega, by omega⟩, ft_add_eq ⟨by omega, by omega⟩]
    refine ⟨⟨by omega, by omega⟩, fun h3 e3 => ?_⟩
    rw [Int.toNat_natCast, show (520 * (m : Int) + (i : Int)).toNat = 520 * m + i by omega, hf 310 (by omega)] at e3
    refine ih (i + 1) h3 (by omega) (fun k hk' => by rw [e3, ft_hs_ne k hk', hf k hk']) (fun j hj => ?_) (fun j hj => ?_)
    · by_cases e : j = i
      · rw [e, e3, ft_hs_same]
      · rw [e3, ft_hs_j (by omega), h1 j (by omega)]
    · rw [e3, ft_hs_j (by omega), h2 j hj]
theorem v_Mo_keepsPast_13 {h0 : ftH} {R : Option ftV → ftH → Prop} (hk : ∀ h' : ftH, (∀ k, k ≠ 311 → h' k = h0 k) → (∀ j, j < 3640 → h' 311 j = h0 311 (j + 520)) → ft_V k_Mo_keepsPast 54 [some (.inr (.inr 309)), some (.inl 0)] [] (ft_hs h' 309 4 (ft_sub (h' 309 4) 1)) R) :
    ∀ (n i : Nat) (h : ftH), 520 ≤ i → i + n = 4160 → (∀ k, k ≠ 311 → h k = h0 k) → (∀ j, j + 520 < i → h 311 j = h0 311 (j + 520)) → (∀ j, i ≤ j + 520 → h 311 j = h0 311 j) → ft_V k_Mo_keepsPast 13 [some (.inr (.inr 309)), some (.inl (i : Int))] [] h R := by
  intro n
  induction n with
  | zero =>
    intro i h h5 hi hf h1 h2
    refine b_Mo_keepsPast_13 ⟨fun c g1 e1 => ?_, fun c => absurd (by omega) c⟩
    rw [e1]
    exact hk h hf (fun j hj => h1 j (by omega))
  | succ n ih =>
    intro i h h5 hi hf h1 h2
    refine b_Mo_keepsPast_13 ⟨fun c => absurd c (by omega), fun c => ⟨⟨by omega, by omega⟩, ?_⟩⟩
    rw [ft_sub_eq ⟨by omega, by omega⟩, ft_add_eq ⟨by omega, by omega⟩]
    refine ⟨⟨by omega, by omega⟩, fun g2 e2 => ?_⟩
    rw [Int.toNat_natCast, show ((i : Int) - 520).toNat = i - 520 by omega] at e2
    refine ih (i + 1) g2 (by omega) (by omega) (fun k hk' => by rw [e2, ft_hs_ne k hk', hf k hk']) (fun j hj => ?_) (fun j hj => ?_)
    · by_cases e : j + 520 = i
      · rw [show j = i - 520 by omega, e2, ft_hs_same, show i - 520 + 520 = i by omega]
        exact h2 i (by omega)
      · rw [e2, ft_hs_j (by omega), h1 j (by omega)]
    · rw [e2, ft_hs_j (by omega), h2 j (by omega)]
theorem c_Mo_keepsPast {h : ftH} {m : Nat} (hm : m ≤ 8) (hpm : h 309 4 = m) : ft_C k_Mo_keepsPast [.inr (.inr 309)] h (fun r h' => r = none ∧ (∀ k, k ≠ 309 → k ≠ 311 → h' k = h k) ∧ (∀ j, j ≠ 4 → j ≠ 20 → h' 309 j = h 309 j) ∧ h' 309 20 = 0 ∧ ∃ m' : Nat, (m < 8 ∧ m' = m + 1 ∨ m = 8 ∧ m' = 8) ∧ h' 309 4 = m' ∧ (∀ j, j < 520 → h' 311 (520 * (m' - 1) + j) = h 310 j) ∧ (∀ j, j < 520 * (m' - 1) → h' 311 j = h 311 (j + 520 * (m + 1 - m')))) := by
  refine ft_enter (n := 1) rfl (Nat.le_of_ble_eq_true rfl) rfl (b_Mo_keepsPast_0 ⟨fun c => ?_, fun c => ?_⟩)
  · have hlt : m < 8 := by omega
    refine v_Mo_keepsPast_54 hlt hpm (fun h' f1 f2 f3 f4 f5 f6 => ⟨rfl, f1, f2, f4, m + 1, Or.inl ⟨hlt, rfl⟩, f3, fun j hj => ?_, fun j hj => ?_⟩) 520 0 h rfl (fun _ _ => rfl) (fun j hj => absurd hj (Nat.not_lt_zero j)) (fun _ _ => rfl)
    · rw [show m + 1 - 1 = m by omega]; exact f5 j hj
    · rw [show m + 1 - (m + 1) = 0 by omega, Nat.mul_zero, Nat.add_zero]
      exact f6 j (by omega)
  · have h8 : m = 8 := by omega
    refine v_Mo_keepsPast_13 (h0 := h) (fun g f1 f2 => ?_) 3640 520 h (by omega) rfl (fun _ _ => rfl) (fun j hj => absurd hj (by omega)) (fun _ _ => rfl)
    have q4 : g 309 4 = 8 := by rw [f1 309 (by omega), c]
    rw [q4, ft_sub_eq ⟨by omega, by omega⟩]
    have e7 : ft_hs g 309 4 (8 - 1) 309 4 = ((7 : Nat) : Int) := ft_hs_same
    refine v_Mo_keepsPast_54 (h0 := ft_hs g 309 4 (8 - 1)) (m := 7) (by omega) e7 (fun h' g1 g2 g3 g4 g5 g6 => ⟨rfl, fun k k1 k2 => by rw [g1 k k1 k2, ft_hs_ne k k1, f1 k k2], fun j j1 j2 => by rw [g2 j j1 j2, ft_hs_j j1, f1 309 (by omega)], g4, 8, Or.inr ⟨h8, rfl⟩, by rw [g3]; rfl, fun j hj => ?_, fun j hj => ?_⟩) 520 0 _ rfl (fun _ _ => rfl) (fun j hj => absurd hj (Nat.not_lt_zero j)) (fun _ _ => rfl)
    · rw [show 8 - 1 = 7 by omega, g5 j hj, ft_hs_ne 310 (by omega), f1 310 (by omega)]
    · rw [g6 j (by omega), ft_hs_ne 311 (by omega), f2 j (by omega), h8]
theorem v_Mo_undo {h0 : ftH} {m : Nat} (hm : m < 8) (hpm : h0 309 4 = m) {R : Option ftV → ftH → Prop} (hk : ∀ h' : ftH, (∀ k, k ≠ 309 → k ≠ 310 → h' k = h0 k) → (∀ j, j ≠ 20 → h' 309 j = h0 309 j) → h' 309 20 = 0 → (∀ j, j < 520 → h' 310 j = h0 311 (520 * m + j)) → R (some (.inl (m : Int))) h') :
    ∀ (n i : Nat) (h : ftH), i + n = 520 → (∀ k, k ≠ 310 → h k = h0 k) → (∀ j, j < i → h 310 j = h0 311 (520 * m + j)) → ft_V k_Mo_undo 21 [some (.inr (.inr 309)), some (.inl (i : Int))] [] h R := by
  intro n
  induction n with
  | zero =>
    intro i h hi hf h1
    refine b_Mo_undo_21 ⟨fun c g1 e1 => ?_, fun c => absurd (by omega) c⟩
    have q : g1 309 4 = m := by rw [e1, ft_hs_j (by omega), hf 309 (by omega), hpm]
    rw [q]
    exact hk g1 (fun k k1 k2 => by rw [e1, ft_hs_ne k k1, hf k k2]) (fun j hj => by rw [e1, ft_hs_j hj, hf 309 (by omega)]) (by rw [e1, ft_hs_same]) (fun j hj => by rw [e1, ft_hs_ne 310 (by omega)]; exact h1 j (by omega))
  | succ n ih =>
    intro i h hi hf h1
    refine b_Mo_undo_21 ⟨fun c => absurd c (by omega), fun c => ?_⟩
    rw [hf 309 (by omega), hpm, ft_mul_eq ⟨by omega, by omega⟩, ft_add_eq ⟨by omega, by omega⟩, ft_add_eq ⟨by omega, by omega⟩]
    refine ⟨⟨by omega, by omega⟩, ⟨by omega, by omega⟩, fun h3 e3 => ?_⟩
    rw [Int.toNat_natCast, show (520 * (m : Int) + (i : Int)).toNat = 520 * m + i by omega, hf 311 (by omega)] at e3
    refine ih (i + 1) h3 (by omega) (fun k hk' => by rw [e3, ft_hs_ne k hk', hf k hk']) (fun j hj => ?_)
    by_cases e : j = i
    · rw [e, e3, ft_hs_same]
    · rw [e3, ft_hs_j e, h1 j (by omega)]
theorem c_Mo_undo {h : ftH} {m : Nat} (hm : m ≤ 8) (hpm : h 309 4 = m) : ft_C k_Mo_undo [.inr (.inr 309)] h (fun r h' => (m = 0 ∧ r = some (.inl (-1)) ∧ h' = h) ∨ (0 < m ∧ r = some (.inl ((m - 1 : Nat) : Int)) ∧ (∀ k, k ≠ 309 → k ≠ 310 → h' k = h k) ∧ (∀ j, j ≠ 4 → j ≠ 20 → h' 309 j = h 309 j) ∧ h' 309 4 = ((m - 1 : Nat) : Int) ∧ h' 309 20 = 0 ∧ (∀ j, j < 520 → h' 310 j = h 311 (520 * (m - 1) + j)))) := by
  refine ft_enter (n := 1) rfl (Nat.le_of_ble_eq_true rfl) rfl (b_Mo_undo_0 ⟨fun c h1 e1 => ?_, fun c => Or.inl ⟨by omega, rfl, rfl⟩⟩)
  rw [hpm, ft_sub_eq ⟨by omega, by omega⟩, show (m : Int) - 1 = ((m - 1 : Nat) : Int) by omega] at e1
  refine v_Mo_undo (h0 := h1) (m := m - 1) (by omega) (by rw [e1, ft_hs_same]) (fun h' f1 f2 f3 f4 => Or.inr ⟨by omega, rfl, fun k k1 k2 => by rw [f1 k k1 k2, e1, ft_hs_ne k k1], fun j j1 j2 => by rw [f2 j j2, e1, ft_hs_j j1], by rw [f2 4 (by omega), e1, ft_hs_same], f3, fun j hj => by rw [f4 j hj, e1, ft_hs_ne 311 (by omega)]⟩) 520 0 h1 rfl (fun _ _ => rfl) (fun j hj => absurd hj (Nat.not_lt_zero j))
