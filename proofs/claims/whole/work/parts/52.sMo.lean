/-! the reference: the hardware's action, the log -/
/-- the action of a list for an address: -2 if none -/
def actOf (L : List (Int × Int)) (x : Int) : Int := match lmatch L x with
  | some q => q.2
  | none => -2
theorem c_Mo_actionFor {o : Nat} (ho : o = 270) {h : ftH} {n : Nat} (hn : h 310 2 = n) (h80 : n ≤ 80) (hr : ∀ k, k < n → 0 ≤ h 310 (o + 3 * k + 1) ∧ h 310 (o + 3 * k + 1) ≤ 32) (hL : lOk (ft_ml h 310 o n)) {x : Int} : ft_C k_Mo_actionFor [.inr (.inr 309), .inl x] h (fun r h' => r = some (.inl (actOf (ft_ml h 310 o n) (pUn x))) ∧ h' = h) := by
  refine ft_enter (n := 1) rfl (Nat.le_of_ble_eq_true rfl) rfl (b_Mo_actionFor_0 ?_)
  rw [hn, show (270 : Int) = ((o : Nat) : Int) by omega]
  refine ⟨_, c_Mo_longest (o := o) (n := n) (by omega) hr, fun z h1 _ hw => ?_⟩
  obtain ⟨rfl, r, hz, hlg⟩ := hw
  cases hz
  have hlm := isLg_isLm hL hlg
  refine ⟨fun c => ?_, fun c => ?_⟩
  · rw [if_neg (by omega)] at hlm
    rcases lmatch_of hlm with ⟨rfl, -⟩ | ⟨p, q, rfl, hp, hm⟩
    · omega
    · have hlt := (List.getElem?_eq_some_iff.mp hp).1
      rw [ft_ml_len] at hlt
      refine ⟨⟨by omega, by omega⟩, ?_, rfl⟩
      rw [actOf, hm, Int.toNat_natCast]
      rw [ft_ml_get hlt] at hp
      cases hp
      rw [show 272 + 3 * p = o + 3 * p + 2 by omega]
  · rw [if_pos (by omega)] at hlm
    rcases lmatch_of hlm with ⟨-, hm⟩ | ⟨p, q, hp0, -, -⟩
    · rw [actOf, hm]
      exact ⟨rfl, rfl⟩
    · omega
theorem c_Mo_isHard {o : Nat} (ho : o = 270) {h : ftH} {n : Nat} (hn : h 310 2 = n) (h80 : n ≤ 80) (hr : ∀ k, k < n → 0 ≤ h 310 (o + 3 * k + 1) ∧ h 310 (o + 3 * k + 1) ≤ 32) (hL : lOk (ft_ml h 310 o n)) {x : Int} : ft_C k_Mo_isHard [.inr (.inr 309), .inl x] h (fun r h' => r = some (.inl (if ansB (ft_ml h 310 o n) (pUn x) = true then 1 else 0)) ∧ h' = h) := by
  refine ft_enter (n := 0) rfl (Nat.le_of_ble_eq_true rfl) rfl (b_Mo_isHard_0 ⟨_, c_Mo_actionFor ho hn h80 hr hL, fun z h1 _ hw => ?_⟩)
  obtain ⟨hz, rfl⟩ := hw
  cases hz
  refine ⟨?_, rfl⟩
  refine congrArg some (congrArg Sum.inl ?_)
  unfold actOf ansB
  cases hm : lmatch (ft_ml h1 310 o n) (pUn x) with
  | none => rfl
  | some q =>
    have hq : q ∈ ft_ml h1 310 o n := by
      unfold lmatch at hm
      exact List.mem_reverse.mp (List.mem_of_find?_eq_some hm)
    have := (hL.1 q hq).2
    by_cases e : q.2 = 16
    · simp [e]
    · have : q.2 ≤ 15 := by omega
      simp [e]
      omega
theorem v_Mo_rarest {o : Nat} (ho : o = 190) {h : ftH} {n : Nat} (hn : h 310 1 = n) (h1n : 1 ≤ n) (h40 : n ≤ 40) {R : Option ftV → ftH → Prop} (hk : ∀ p : Nat, p < n → (∀ j, j < n → h 310 (o + 2 * p + 1) ≤ h 310 (o + 2 * j + 1)) → (∀ j, j < p → h 310 (o + 2 * p + 1) < h 310 (o + 2 * j + 1)) → R (some (.inl (p : Int))) h) :
    ∀ m i b : Nat, i + m = n → b < i → (∀ j, j < i → h 310 (o + 2 * b + 1) ≤ h 310 (o + 2 * j + 1)) → (∀ j, j < b → h 310 (o + 2 * b + 1) < h 310 (o + 2 * j + 1)) → ft_V k_Mo_rarest 4 [some (.inr (.inr 309)), some (.inl (b : Int)), some (.inl (i : Int))] [] h R := by
  intro m
  induction m with
  | zero =>
    intro i b hi hbi g1 g2
    exact b_Mo_rarest_4 ⟨fun c => hk b (by omega) (fun j hj => g1 j (by omega)) g2, fun c => absurd (by omega) c⟩
  | succ m ih =>
    intro i b hi hbi g1 g2
    refine b_Mo_rarest_4 ⟨fun c => absurd c (by omega), fun c => ⟨⟨by omega, by omega⟩, ⟨by omega, by omega⟩, ?_⟩⟩
    rw [Int.toNat_natCast, Int.toNat_natCast, ft_add_eq ⟨by omega, by omega⟩, show 191 + 2 * b = o + 2 * b + 1 by omega, show 191 + 2 * i = o + 2 * i + 1 by omega]
    refine ⟨fun d => ih (i + 1) b (by omega) (by omega) (fun j hj => ?_) g2, fun d => ih (i + 1) i (by omega) (by omega) (fun j hj => ?_) (fun j hj => ?_)⟩
    · by_cases e : j = i
      · rw [e]; exact d
      · exact g1 j (by omega)
    · by_cases e : j = i
      · rw [e]; exact Int.le_refl _
      · have := g1 j (by omega)
        omega
    · have := g1 j hj
      omega
theorem c_Mo_rarest {o : Nat} (ho : o = 190) {h : ftH} {n : Nat} (hn : h 310 1 = n) (h1n : 1 ≤ n) (h40 : n ≤ 40) : ft_C k_Mo_rarest [.inr (.inr 309)] h (fun r h' => h' = h ∧ ∃ p : Nat, r = some (.inl (p : Int)) ∧ p < n ∧ isRar (ft_gl h 310 o n) p) := by
  refine ft_enter (n := 2) rfl (Nat.le_of_ble_eq_true rfl) rfl (b_Mo_rarest_0 ?_)
  refine v_Mo_rarest ho hn h1n h40 (fun p hp g1 g2 => ⟨rfl, p, rfl, hp, _, ft_gl_get hp, fun r hr => ?_, fun j r hj hq => ?_⟩) (n - 1) 1 0 (by omega) (by omega) (fun j hj => by rw [show j = 0 by omega]; exact Int.le_refl _) (fun j hj => absurd hj (Nat.not_lt_zero j))
  · obtain ⟨j, hj⟩ := List.getElem?_of_mem hr
    have hlt := (List.getElem?_eq_some_iff.mp hj).1
    rw [ft_gl_len] at hlt
    rw [ft_gl_get hlt] at hj
    cases hj
    exact g1 j hlt
  · rw [ft_gl_get (by omega)] at hq
    cases hq
    exact g2 j hj
