/-! REPORTS: signs and numbers -/
/-- a text in an array -/
def sqI (h : ftH) (c : Nat) (X : List Int) : Prop := ∀ i, i < X.length → X[i]? = some (h c i)
theorem sqI_snoc {h h' : ftH} {c : Nat} {X : List Int} {x : Int} (hX : sqI h c X) (f : ∀ i, i ≠ X.length → h' c i = h c i) (e : h' c X.length = x) : sqI h' c (X ++ [x]) := by
  intro i hi
  rw [List.length_append, List.length_singleton] at hi
  by_cases t : i = X.length
  · rw [t, List.getElem?_append_right (Nat.le_refl _), Nat.sub_self, e]
    rfl
  · rw [List.getElem?_append_left (by omega), f i t]
    exact hX i (by omega)
def rpI (h : ftH) (X : List Int) : Prop := h 294 1 = (X.length : Int) ∧ sqI h 295 X
def txI (h : ftH) (X : List Int) : Prop := h 309 32 = (X.length : Int) ∧ sqI h 329 X
theorem c_Mo_writesSign {h : ftH} {X : List Int} (hX : txI h X) (hl : X.length < 2400) {x : Int} : ft_C k_Mo_writesSign [.inr (.inr 309), .inl x] h (fun r h' => r = none ∧ txI h' (X ++ [x]) ∧ (∀ c, c ≠ 309 → c ≠ 329 → h' c = h c) ∧ ∀ j, j ≠ 32 → h' 309 j = h 309 j) := by
  refine ft_enter (n := 0) rfl (Nat.le_of_ble_eq_true rfl) rfl (b_Mo_writesSign_0 ⟨by rw [hX.1]; omega, fun h1 e1 h2 e2 => ?_⟩)
  rw [hX.1, Int.toNat_natCast] at e1
  have g : h1 309 = h 309 := by rw [e1, ft_hs_ne 309 (by omega)]
  rw [g, hX.1, inc1 (by omega)] at e2
  refine ⟨rfl, ⟨by rw [e2, ft_hs_same, List.length_append]; rfl, sqI_snoc hX.2 (fun i hi => by rw [e2, ft_hs_ne 329 (by omega), e1, ft_hs_j hi]) (by rw [e2, ft_hs_ne 329 (by omega), e1, ft_hs_same])⟩, fun c c1 c2 => by rw [e2, ft_hs_ne c c1, e1, ft_hs_ne c c2], fun j hj => by rw [e2, ft_hs_j hj, g]⟩
