/-! THE REFERENCE'S FACE: routes -/
def aAdd (v l x : Int) (S : ftS) : Int × Option ftS :=
  if ¬ ((0 ≤ l ∧ l ≤ 32) ∧ pUn v % pSz l = 0) ∨ ¬ (0 ≤ x ∧ x ≤ 15) then (-1, none)
  else if (kOf v l, x) ∈ S.2.1 then (-2, none)
  else if (∀ q ∈ S.2.1, q.1 ≠ kOf v l) ∧ 60 ≤ S.2.1.length then (-3, none)
  else ((hwChange (kOf v l) (2 * S.1) S.2.2.1 S.2.2.2.2).2.2, some (S.1, insK (kOf v l) x S.2.1, (hwChange (kOf v l) (2 * S.1) S.2.2.1 S.2.2.2.2).1, S.2.2.2.1, (hwChange (kOf v l) (2 * S.1) S.2.2.1 S.2.2.2.2).2.1))
/-- the reference's state, part by part -/
theorem ft_ma_0 {h : ftH} : ft_ma h 310 0 = (h 310 3, ft_ml h 310 10 (h 310 0).toNat, ft_ml h 310 270 (h 310 2).toNat, ft_gl h 310 190 (h 310 1).toNat, ft_mc h) := by
  unfold ft_ma ft_mc
  simp only [Nat.zero_add]
theorem ft_mz_0 {h : ftH} : ft_mz h 310 0 ↔ (0 ≤ h 310 0 ∧ h 310 0 ≤ 60) ∧ (0 ≤ h 310 2 ∧ h 310 2 ≤ 80) ∧ (0 ≤ h 310 1 ∧ h 310 1 ≤ 40) ∧ (∀ k : Nat, (k : Int) < h 310 0 → 0 ≤ h 310 (10 + 3 * k + 1) ∧ h 310 (10 + 3 * k + 1) ≤ 32) ∧ (∀ k : Nat, (k : Int) < h 310 2 → 0 ≤ h 310 (270 + 3 * k + 1) ∧ h 310 (270 + 3 * k + 1) ≤ 32) := by
  unfold ft_mz
  simp only [Nat.zero_add]
/-- behind a change of the reference's row alone -/
theorem mcI_310 {h h' : ftH} {S S' : ftS} {P : List ftS} (hI : mcI h S P) (hf : ∀ c, c ≠ 310 → h' c = h c) (hz : ft_mz h' 310 0) (hs : ft_ma h' 310 0 = S') : mcI h' S' P := by
  obtain ⟨-, h4, hP, hd⟩ := hI
  refine ⟨⟨hz, hs⟩, by rw [hf 309 (by omega), h4], hP, fun d X hX => ?_⟩
  have h9 := hd d X hX
  have hk := ft_ma_mv (h := h) (h' := h') (c := 311) (o := 520 * (P.length - 1 - d)) (c' := 311) (o' := 520 * (P.length - 1 - d)) h9.1 (fun j _ => by rw [hf 311 (by omega)])
  exact ⟨hk.2, by rw [hk.1, h9.2]⟩
/-- the last part of adding and removing: the hardware and the counts -/
theorem v_Mo_changed {h1 : ftH} {S : ftS} {B : Int} (hB : B ≤ 1000000000) (hz : ft_mz h1 310 0) (hs : ft_ma h1 310 0 = S) (hok : sOk B S) {v l : Int} (hl : 0 ≤ l ∧ l ≤ 32) (ha : pUn v % pSz l = 0) : ft_C k_Mo_routeChanged [.inr (.inr 309), .inl v, .inl l] h1 (fun r h' => r = none ∧ (∀ c, c ≠ 310 → h' c = h1 c) ∧ ft_mz h' 310 0 ∧ ft_ma h' 310 0 = (S.1, S.2.1, (hwChange (kOf v l) (2 * S.1) S.2.2.1 S.2.2.2.2).1, S.2.2.2.1, (hwChange (kOf v l) (2 * S.1) S.2.2.1 S.2.2.2.2).2.1) ∧ h' 310 6 = h1 310 6 + (hwChange (kOf v l) (2 * S.1) S.2.2.1 S.2.2.2.2).2.2) := by
  rw [ft_ma_0] at hs
  subst hs
  obtain ⟨o1, o2, o3, o4, o5⟩ := hok
  simp only at o1 o2 o3 o4 o5
  obtain ⟨z1, z2, z3, z4, z5⟩ := ft_mz_0.mp hz
  have hn : h1 310 2 = ((h1 310 2).toNat : Int) := by omega
  have hroom : ((h1 310 2).toNat : Int) ≤ 2 * h1 310 3 := by
    have := o3.2
    rw [ft_ml_len] at this
    exact this
  refine ft_Cw (c_Mo_routeChanged (o := 270) rfl hn o1 hroom (fun x hx => ⟨(o5.2 x hx).1, Int.le_trans (o5.2 x hx).2 hB⟩) (fun k hk => z5 k (by omega)) o3.1 hl ha) (fun r h' hw => ?_)
  obtain ⟨hr, f1, f2, n', g2, gle, g5, gl, gc⟩ := hw
  have k0 : h' 310 0 = h1 310 0 := f2 0 (by omega) (by omega) (by omega) (by omega) (by omega)
  have k1 : h' 310 1 = h1 310 1 := f2 1 (by omega) (by omega) (by omega) (by omega) (by omega)
  have k3 : h' 310 3 = h1 310 3 := f2 3 (by omega) (by omega) (by omega) (by omega) (by omega)
  have q1 : ft_ml h' 310 10 (h1 310 0).toNat = ft_ml h1 310 10 (h1 310 0).toNat := ft_ml_mv (fun j hj => f2 _ (by omega) (by omega) (by omega) (by omega) (by omega))
  have q2 : ft_gl h' 310 190 (h1 310 1).toNat = ft_gl h1 310 190 (h1 310 1).toNat := ft_gl_mv (fun j hj => f2 _ (by omega) (by omega) (by omega) (by omega) (by omega))
  refine ⟨hr, f1, ft_mz_0.mpr ⟨by rw [k0]; exact z1, by rw [g2]; omega, by rw [k1]; exact z3, fun k hk => ?_, fun k hk => g5 k (by omega)⟩, ?_, ?_⟩
  · rw [k0] at hk
    have := z4 k hk
    rw [f2 _ (by omega) (by omega) (by omega) (by omega) (by omega)]
    exact this
  · rw [ft_ma_0]
    simp only
    rw [k0, k1, k3, q1, q2, g2, Int.toNat_natCast, gl, gc]
  · have := congrArg (fun c => c.getD 2 0) gc
    simp only at this ⊢
    rw [show ft_mc h1 = [h1 310 4, h1 310 5, h1 310 6, h1 310 7, h1 310 8] from rfl, hwChange_churn] at this
    exact this
