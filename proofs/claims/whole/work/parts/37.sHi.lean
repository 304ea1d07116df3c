/-! THE HISTORY: a ring of eight states -/
theorem c_Hi_forget {h : ftH} : ft_C k_Hi_forget [.inr (.inr 23)] h (fun r h' => r = none ∧ h' = ft_hs h 23 1 0) :=
  ft_enter (n := 0) rfl (Nat.le_of_ble_eq_true rfl) rfl (b_Hi_forget_0 (fun h1 e1 => ⟨rfl, e1⟩))
/-- the cell of the ring's place p -/
def slot (p : Nat) : Nat := 25 + 11 * p
theorem c_Hi_save {h : ftH} {p : Nat} (hp : p < 8) (hn : h 23 2 = p) (hm : 0 ≤ h 23 1 ∧ h 23 1 ≤ 8) (hz : ft_sz h 1) : ft_C k_Hi_save [.inr (.inr 23), .inr (.inr 1)] h (fun r h' => r = none ∧ (∀ k, k ≠ 23 → (k < slot p ∨ slot p + 11 ≤ k) → h' k = h k) ∧ ft_sa h' (slot p) = ft_sa h 1 ∧ ft_sz h' (slot p) ∧ h' 23 2 = (((p + 1) % 8 : Nat) : Int) ∧ h' 23 1 = min (h 23 1 + 1) 8) := by
  have h1s : ft_sh 1 = some (.inl 6) := sh_1
  have hsl : ft_sh (slot p) = some (.inl 6) := sha_24_all p hp
  refine ft_enter (n := 0) rfl (Nat.le_of_ble_eq_true rfl) rfl (b_Hi_save_0 h1s ?_)
  have e0 : 25 + 11 * (h 23 2).toNat = slot p := by rw [hn]; rfl
  rw [e0]
  refine ⟨by omega, _, c_St_copyFrom hsl h1s (by unfold slot; omega) hz, fun h1 hw => ?_⟩
  obtain ⟨-, f1, s1, z1⟩ := hw
  have q2 : h1 23 2 = p := by rw [f1 23 (by unfold slot; omega), hn]
  have q1 : h1 23 1 = h 23 1 := by rw [f1 23 (by unfold slot; omega)]
  rw [q2, ft_add_eq ⟨by omega, by omega⟩]
  have fin : ∀ h2 : ftH, (∀ k, k ≠ 23 → h2 k = h1 k) → h2 23 2 = (((p + 1) % 8 : Nat) : Int) → h2 23 1 = min (h 23 1 + 1) 8 → ((none : Option ftV) = none ∧ (∀ k, k ≠ 23 → (k < slot p ∨ slot p + 11 ≤ k) → h2 k = h k) ∧ ft_sa h2 (slot p) = ft_sa h 1 ∧ ft_sz h2 (slot p) ∧ h2 23 2 = (((p + 1) % 8 : Nat) : Int) ∧ h2 23 1 = min (h 23 1 + 1) 8) := fun h2 g1 g2 g3 =>
    ⟨rfl, fun k k1 k2 => by rw [g1 k k1, f1 k k2], by rw [← s1]; exact ft_sa_same (fun k k1 k2 => g1 k (by unfold slot at k1; omega)), ft_sz_same (fun k k1 k2 => g1 k (by unfold slot at k1; omega)) z1, g2, g3⟩
  refine ⟨fun c h2 e2 h3 e3 => ?_, fun c h2 e2 h3 e3 => ?_⟩
  · have r1 : h2 23 1 = h 23 1 := by rw [e2, ft_hs_j (by omega), q1]
    rw [r1, ft_add_eq ⟨by omega, by omega⟩] at e3
    refine fin h3 (fun k hk => by rw [e3, ft_hs_ne k hk, e2, ft_hs_ne k hk]) ?_ (by rw [e3, ft_hs_same])
    rw [e3, ft_hs_j (by omega), e2, ft_hs_same]
    omega
  · have r1 : h2 23 1 = h 23 1 := by rw [e2, ft_hs_j (by omega), q1]
    rw [r1, ft_add_eq ⟨by omega, by omega⟩] at e3
    refine fin h3 (fun k hk => by rw [e3, ft_hs_ne k hk, e2, ft_hs_ne k hk]) ?_ (by rw [e3, ft_hs_same])
    rw [e3, ft_hs_j (by omega), e2, ft_hs_same]
    omega
theorem c_Hi_restore {h : ftH} {p : Nat} (hp : p < 8) (hn : h 23 2 = p) (hm : 0 ≤ h 23 1 ∧ h 23 1 ≤ 8) (hz : h 23 1 ≠ 0 → ft_sz h (slot ((p + 7) % 8))) : ft_C k_Hi_restore [.inr (.inr 23), .inr (.inr 1)] h (fun r h' => (h 23 1 = 0 ∧ r = some (.inl 0) ∧ h' = h) ∨ (h 23 1 ≠ 0 ∧ r = some (.inl 1) ∧ (∀ k, k ≠ 23 → (k < 1 ∨ 12 ≤ k) → h' k = h k) ∧ ft_sa h' 1 = ft_sa h (slot ((p + 7) % 8)) ∧ ft_sz h' 1 ∧ h' 23 2 = (((p + 7) % 8 : Nat) : Int) ∧ h' 23 1 = h 23 1 - 1)) := by
  have h1s : ft_sh 1 = some (.inl 6) := sh_1
  have hsl : ft_sh (slot ((p + 7) % 8)) = some (.inl 6) := sha_24_all _ (Nat.mod_lt _ (by omega))
  have h25 : 25 ≤ slot ((p + 7) % 8) := by unfold slot; omega
  refine ft_enter (n := 0) rfl (Nat.le_of_ble_eq_true rfl) rfl (b_Hi_restore_0 h1s ⟨fun c => ?_, fun c => Or.inl ⟨c, rfl, rfl⟩⟩)
  have go : ∀ h1 : ftH, h1 = ft_hs h 23 2 (((p + 7) % 8 : Nat) : Int) → ((0 ≤ h1 23 2 ∧ h1 23 2 < 8) ∧ (∃ R2 : Option ftV → ftH → Prop, ft_C k_St_copyFrom [.inr (.inr 1), .inr (.inr (25 + 11 * (h1 23 2).toNat))] h1 R2 ∧ ∀ h2 : ftH, R2 none h2 → (∀ h3 : ftH, h3 = ft_hs h2 23 1 (ft_sub (h2 23 1) 1) → ((h 23 1 = 0 ∧ (some (.inl 1) : Option ftV) = some (.inl 0) ∧ h3 = h) ∨ (h 23 1 ≠ 0 ∧ (some (.inl 1) : Option ftV) = some (.inl 1) ∧ (∀ k, k ≠ 23 → (k < 1 ∨ 12 ≤ k) → h3 k = h k) ∧ ft_sa h3 1 = ft_sa h (slot ((p + 7) % 8)) ∧ ft_sz h3 1 ∧ h3 23 2 = (((p + 7) % 8 : Nat) : Int) ∧ h3 23 1 = h 23 1 - 1))))) := by
    intro h1 e1
    have q2 : h1 23 2 = (((p + 7) % 8 : Nat) : Int) := by rw [e1, ft_hs_same]
    have q1 : h1 23 1 = h 23 1 := by rw [e1, ft_hs_j (by omega)]
    have f1 : ∀ k, k ≠ 23 → h1 k = h k := fun k hk => by rw [e1, ft_hs_ne k hk]
    have e0 : 25 + 11 * (h1 23 2).toNat = slot ((p + 7) % 8) := by rw [q2]; rfl
    rw [e0]
    refine ⟨by omega, _, c_St_copyFrom h1s hsl (by omega) (ft_sz_same (fun k k1 k2 => f1 k (by omega)) (hz c)), fun h2 hw h3 e3 => ?_⟩
    obtain ⟨-, f2, s2, z2⟩ := hw
    have r1 : h2 23 1 = h 23 1 := by rw [f2 23 (by omega), q1]
    rw [r1, ft_sub_eq ⟨by omega, by omega⟩] at e3
    refine Or.inr ⟨c, rfl, fun k k1 k2 => by rw [e3, ft_hs_ne k k1, f2 k (by omega), f1 k k1], ?_, ft_sz_same (fun k k1 k2 => by rw [e3, ft_hs_ne k (by omega)]) z2, ?_, by rw [e3, ft_hs_same]⟩
    · rw [ft_sa_same (a := 1) (h := h2) (fun k k1 k2 => by rw [e3, ft_hs_ne k (by omega)]), s2]
      exact ft_sa_same (fun k k1 k2 => f1 k (by omega))
    · rw [e3, ft_hs_j (by omega), f2 23 (by omega), q2]
  refine ⟨fun d h1 e1 => go h1 ?_, fun d h1 e1 => go h1 ?_⟩
  · rw [e1, show (((p + 7) % 8 : Nat) : Int) = 7 by omega]
  · rw [e1, hn, ft_sub_eq ⟨by omega, by omega⟩, show (((p + 7) % 8 : Nat) : Int) = (p : Int) - 1 by omega]
