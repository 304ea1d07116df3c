/-! the class: undoing, ageing, packets -/
theorem d_FT_undo {h : ftH} {S : ftS} {P : List ftS} (hI : ccI h S P) : ft_C k_FT_undo [.inr (.inr 0)] h (fun r h' => cFr h h' ∧ ((P = [] ∧ r = some (.inl (-1)) ∧ h' = h) ∨ ∃ X P', P = X :: P' ∧ r = some (.inl (P'.length : Int)) ∧ h' 0 5 = min (h 0 5) 0 ∧ h' 294 2 = -1 ∧ ccI h' X P')) := by
  refine ft_enter (n := 0) rfl (Nat.le_of_ble_eq_true rfl) rfl (b_FT_undo_0 ⟨_, d_Hi_restore hI, fun z3 h1 _ hw => ?_⟩)
  rcases hw with ⟨hP, hz, rfl⟩ | ⟨X, P', hP, hz, f1, gI⟩
  · cases hz
    exact ⟨fun c => absurd rfl c, fun _ => ⟨⟨fun _ _ _ _ _ => rfl, fun _ _ => rfl, fun _ _ => rfl⟩, Or.inl ⟨hP, rfl, rfl⟩⟩⟩
  · cases hz
    refine ⟨fun _ => ⟨_, c_FT_unsettle, fun h2 hw => ?_⟩, fun c => absurd c (by decide)⟩
    obtain ⟨-, y3, y4, y5, y6, y7⟩ := hw
    obtain ⟨p, hp, k2, k1, -⟩ := gI.2
    rw [y3 23 (by omega) (by omega), k1]
    exact ⟨⟨fun k k0 k1 k2 k3 => by rw [y3 k k0 k1, f1 k k2 (by omega)], fun j hj => by rw [y4 j hj, f1 0 (by omega) (by omega)], fun j hj => by rw [y5 j hj, f1 294 (by omega) (by omega)]⟩, Or.inr ⟨X, P', hP, rfl, by rw [y6, f1 0 (by omega) (by omega)], y7, ccI_un gI y3⟩⟩
def aAge (S : ftS) : Int × Option ftS := if S.2.2.2.1.length = 0 then (-2, none) else ((S.2.2.2.1.length : Int) - (logHalf S.2.2.2.1).length, some (S.1, S.2.1, S.2.2.1, logHalf S.2.2.2.1, S.2.2.2.2))
/-- a change of the log alone -/
theorem ccI_log {h h' : ftH} {S : ftS} {P : List ftS} (hI : ccI h S P) (hf : ∀ k, k < 8 ∨ 8 + 3 ≤ k → h' k = h k) (ht : ft_tw h' 8) : ccI h' (S.1, S.2.1, S.2.2.1, ft_pl h' 8, S.2.2.2.2) P := by
  obtain ⟨z1, z2, z3⟩ := hI.1.1
  have s := hI.1.2
  rw [ft_sa_1] at s
  refine ccI_st hI (fun k k1 k2 => hf k (by omega)) ⟨by rw [hf (1 + 1) (by omega)]; exact z1, by rw [hf (1 + 4) (by omega)]; exact z2, ht.1⟩ ?_
  rw [ft_sa_1, hf 1 (by omega), ft_pl_same (h := h) (a := 2) (hf _ (by omega)) (hf _ (by omega)) (hf _ (by omega)), ft_pl_same (h := h) (a := 5) (hf _ (by omega)) (hf _ (by omega)) (hf _ (by omega)), ft_ct_same (hf 11 (by omega)), ← s]
theorem d_FT_age {h : ftH} {S : ftS} {P : List ftS} (hI : ccI h S P) {B : Int} (hok : sOk B S) : ft_C k_FT_age [.inr (.inr 0)] h (fun r h' => r = some (.inl (aAge S).1) ∧ cFr h h' ∧ ((aAge S).2 = none ∧ h' = h ∨ ∃ S', (aAge S).2 = some S' ∧ h' 0 5 = min (h 0 5) 2 ∧ h' 294 2 = -1 ∧ ccI h' S' ((S :: P).take 8))) := by
  have s := hI.1.2
  rw [ft_sa_1] at s
  have w3 : ft_pl h 8 = S.2.2.2.1 := congrArg (fun s : ftS => s.2.2.2.1) s
  have hlen : (S.2.2.2.1.length : Int) = h 8 2 := by
    rw [← w3, ft_pl_len]
    have : 0 ≤ h 8 2 := hI.1.1.2.2.1
    omega
  refine ft_enter (n := 1) rfl (Nat.le_of_ble_eq_true rfl) rfl (b_FT_age_0 ⟨fun c => ⟨_, d_Hi_save hI, fun h1 hw => ?_⟩, fun c => ?_⟩)
  · obtain ⟨-, f1, gI⟩ := hw
    obtain ⟨q1, q2, q3⟩ := cc_ps gI hok
    have sg := gI.1.2
    rw [ft_sa_1] at sg
    have v3 : ft_pl h1 8 = S.2.2.2.1 := congrArg (fun s : ftS => s.2.2.2.1) sg
    refine ⟨_, c_TL_halve (a := 8) (shc_6_3 sh_1) q3, fun z5 h2 _ hw => ?_⟩
    obtain ⟨f2, t2, le2, p2, r2⟩ := hw
    cases r2
    rw [v3] at p2
    have e18 : h1 8 = h 8 := f1 8 (by omega) (by omega)
    have hl2 : ((logHalf S.2.2.2.1).length : Int) = h2 8 2 := by
      rw [← p2, ft_pl_len]
      have := t2.1
      omega
    refine ⟨_, c_FT_unsettle, fun h3 hw => ?_⟩
    obtain ⟨-, y3, y4, y5, y6, y7⟩ := hw
    have e9 : aAge S = ((S.2.2.2.1.length : Int) - (logHalf S.2.2.2.1).length, some (S.1, S.2.1, S.2.2.1, logHalf S.2.2.2.1, S.2.2.2.2)) := by unfold aAge; rw [if_neg (by omega)]
    have gI2 := ccI_log gI f2 t2
    rw [p2] at gI2
    rw [e9, hlen, hl2, e18]
    exact ⟨rfl, ⟨fun k k0 k1 k2 k3 => by rw [y3 k k0 k1, f2 k (by omega), f1 k k2 (by omega)], fun j hj => by rw [y4 j hj, f2 0 (by omega), f1 0 (by omega) (by omega)], fun j hj => by rw [y5 j hj, f2 294 (by omega), f1 294 (by omega) (by omega)]⟩, Or.inr ⟨_, rfl, by rw [y6, f2 0 (by omega), f1 0 (by omega) (by omega)], y7, ccI_un gI2 y3⟩⟩
  · have e9 : aAge S = (-2, none) := by unfold aAge; rw [if_pos (by omega)]
    rw [e9]
    exact ⟨rfl, ⟨fun _ _ _ _ _ => rfl, fun _ _ => rfl, fun _ _ => rfl⟩, Or.inl ⟨rfl, rfl⟩⟩
