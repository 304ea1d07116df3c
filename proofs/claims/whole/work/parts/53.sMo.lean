/-! the reference's log: dropping -/
theorem ix2 {o i : Nat} (h : o + 2 * i ≤ 600) : ft_add (o : Int) (ft_mul 2 (i : Int)) = ((o + 2 * i : Nat) : Int) := by
  rw [ft_mul_eq ⟨by omega, by omega⟩, ft_add_eq ⟨by omega, by omega⟩]
  omega
theorem v_Mo_dropsSeen {o : Nat} (ho : o = 190) {h0 : ftH} {n a : Nat} (hn : h0 310 1 = n) (h40 : n ≤ 40) (ha : a < n) {R : Option ftV → ftH → Prop} (hk : ∀ h' : ftH, (∀ k, k ≠ 310 → h' k = h0 k) → h' 310 1 = ((n - 1 : Nat) : Int) → (∀ j, j ≠ 1 → (j < o + 2 * a ∨ o + 2 * n - 2 ≤ j) → h' 310 j = h0 310 j) → (∀ j, o + 2 * a ≤ j → j < o + 2 * n - 2 → h' 310 j = h0 310 (j + 2)) → R none h') :
    ∀ (m i : Nat) (h : ftH), i + m = o + 2 * n - 2 → o + 2 * a ≤ i → (∀ k, k ≠ 310 → h k = h0 k) → (∀ j, j < o + 2 * a ∨ i ≤ j → h 310 j = h0 310 j) → (∀ j, o + 2 * a ≤ j → j < i → h 310 j = h0 310 (j + 2)) → ft_V k_Mo_dropsSeen 8 [some (.inr (.inr 309)), none, some (.inl (i : Int))] [] h R := by
  have e190 : (190 : Int) = ((o : Nat) : Int) := by omega
  intro m
  induction m with
  | zero =>
    intro i h hi hai hf g1 g2
    refine b_Mo_dropsSeen_8 ?_
    rw [g1 1 (by omega), hn, e190, ix2 (by omega), ft_sub_eq ⟨by omega, by omega⟩]
    refine ⟨fun c h1 e1 => ?_, fun c => absurd (by omega) c⟩
    rw [ft_sub_eq ⟨by omega, by omega⟩] at e1
    exact hk h1 (fun k hk' => by rw [e1, ft_hs_ne k hk', hf k hk']) (by rw [e1, ft_hs_same]; omega) (fun j j1 j2 => by rw [e1, ft_hs_j j1, g1 j (by omega)]) (fun j j1 j2 => by rw [e1, ft_hs_j (by omega), g2 j j1 (by omega)])
  | succ m ih =>
    intro i h hi hai hf g1 g2
    refine b_Mo_dropsSeen_8 ?_
    rw [g1 1 (by omega), hn, e190, ix2 (by omega), ft_sub_eq ⟨by omega, by omega⟩, ft_add_eq (y := 2) ⟨by omega, by omega⟩, ft_add_eq (y := 1) ⟨by omega, by omega⟩]
    refine ⟨fun c => absurd c (by omega), fun c => ⟨⟨by omega, by omega⟩, ⟨by omega, by omega⟩, fun g e => ?_⟩⟩
    rw [Int.toNat_natCast, show ((i : Int) + 2).toNat = i + 2 by omega, g1 (i + 2) (by omega)] at e
    refine ih (i + 1) g (by omega) (by omega) (fun k hk' => by rw [e, ft_hs_ne k hk', hf k hk']) (fun j hj => by rw [e, ft_hs_j (by omega), g1 j (by omega)]) (fun j j1 j2 => ?_)
    by_cases q : j = i
    · rw [q, e, ft_hs_same]
    · rw [e, ft_hs_j q, g2 j j1 (by omega)]
theorem c_Mo_dropsSeen {o : Nat} (ho : o = 190) {h : ftH} {n a : Nat} (hn : h 310 1 = n) (h40 : n ≤ 40) (ha : a < n) : ft_C k_Mo_dropsSeen [.inr (.inr 309), .inl (a : Int)] h (fun r h' => r = none ∧ (∀ k, k ≠ 310 → h' k = h k) ∧ h' 310 1 = ((n - 1 : Nat) : Int) ∧ (∀ j, j ≠ 1 → (j < o ∨ o + 80 ≤ j) → h' 310 j = h 310 j) ∧ ft_gl h' 310 o (n - 1) = (ft_gl h 310 o n).eraseIdx a) := by
  refine ft_enter (n := 1) rfl (Nat.le_of_ble_eq_true rfl) rfl (b_Mo_dropsSeen_0 (fun n1 e1 => ?_))
  rw [e1, show (190 : Int) = ((o : Nat) : Int) by omega, ix2 (by omega)]
  refine v_Mo_dropsSeen ho hn h40 ha (fun h' f1 f2 f3 f4 => ⟨rfl, f1, f2, fun j j1 j2 => f3 j j1 (by omega), ?_⟩) (o + 2 * n - 2 - (o + 2 * a)) (o + 2 * a) h (by omega) (Nat.le_refl _) (fun _ _ => rfl) (fun _ _ => rfl) (fun j j1 j2 => absurd j2 (by omega))
  apply List.ext_getElem?
  intro j
  rw [List.getElem?_eraseIdx]
  split
  · next c => rw [ft_gl_get (by omega), ft_gl_get (by omega), f3 (o + 2 * j) (by omega) (by omega), f3 (o + 2 * j + 1) (by omega) (by omega)]
  · next c =>
    by_cases d : j < n - 1
    · rw [ft_gl_get d, ft_gl_get (by omega), f4 (o + 2 * j) (by omega) (by omega), f4 (o + 2 * j + 1) (by omega) (by omega), show o + 2 * j + 2 = o + 2 * (j + 1) by omega, show o + 2 * j + 1 + 2 = o + 2 * (j + 1) + 1 by omega]
    · rw [ft_gl_none (by omega), ft_gl_none (by omega)]
