/-! SYNC OF THE REFERENCE: the next change -/
theorem mcI_hw {h h' : ftH} {S : ftS} {P : List ftS} (hI : mcI h S P) (f1 : ∀ c, c ≠ 310 → h' c = h c) {n : Nat} (hn : h' 310 2 = n) (h80 : n ≤ 80) (f : ∀ j, j < 270 → j ≠ 2 → j ≠ 6 → h' 310 j = h 310 j) (h6 : h' 310 6 = h 310 6 + 1) (hr : ∀ k, k < n → 0 ≤ h' 310 (270 + 3 * k + 1) ∧ h' 310 (270 + 3 * k + 1) ≤ 32) : mcI h' (S.1, S.2.1, ft_ml h' 310 270 n, S.2.2.2.1, ctCh 1 S.2.2.2.2) P := by
  obtain ⟨z1, z2, z3, z4, z5⟩ := ft_mz_0.mp hI.1.1
  obtain ⟨e0, e1, e2, e3, e4⟩ := mc_eq hI
  have a0 : h' 310 0 = h 310 0 := f 0 (by omega) (by omega) (by omega)
  have a1 : h' 310 1 = h 310 1 := f 1 (by omega) (by omega) (by omega)
  have a3 : h' 310 3 = h 310 3 := f 3 (by omega) (by omega) (by omega)
  refine mcI_310 hI f1 (ft_mz_0.mpr ⟨by rw [a0]; exact z1, by rw [hn]; omega, by rw [a1]; exact z3, fun k hk => ?_, fun k hk => hr k (by omega)⟩) ?_
  · rw [a0] at hk
    rw [f (10 + 3 * k + 1) (by omega) (by omega) (by omega)]
    exact z4 k hk
  · have m1 : ft_ml h' 310 10 (h 310 0).toNat = ft_ml h 310 10 (h 310 0).toNat := ft_ml_mv (fun j hj => f (10 + j) (by omega) (by omega) (by omega))
    have m2 : ft_gl h' 310 190 (h 310 1).toNat = ft_gl h 310 190 (h 310 1).toNat := by
      unfold ft_gl
      refine List.map_congr_left (fun k hk => ?_)
      have := List.mem_range.mp hk
      rw [f (190 + 2 * k) (by omega) (by omega) (by omega), f (190 + 2 * k + 1) (by omega) (by omega) (by omega)]
    have m3 : ft_mc h' = ctCh 1 (ft_mc h) := by
      unfold ft_mc ctCh
      simp only
      rw [h6, f 4 (by omega) (by omega) (by omega), f 5 (by omega) (by omega) (by omega), f 7 (by omega) (by omega) (by omega), f 8 (by omega) (by omega) (by omega)]
    rw [ft_ma_0, a3, e0, a0, m1, e1, hn, Int.toNat_natCast, a1, m2, e3, m3, e4]
/-- the kept entry that must come next: the longest, the first of those -/
def cb (H T : List (Int × Int)) : Nat → Int
  | 0 => -2
  | n + 1 => if ¬ (kAt T n, vAt T n) ∈ H ∧ (cb H T n < 0 ∨ kAt T (cb H T n).toNat % 64 < kAt T n % 64) then (n : Int) else cb H T n
theorem cb_spec {H T : List (Int × Int)} : ∀ n, (cb H T n = -2 ∧ ∀ j, j < n → (kAt T j, vAt T j) ∈ H) ∨ ∃ p : Nat, p < n ∧ cb H T n = (p : Int) ∧ ¬ (kAt T p, vAt T p) ∈ H ∧ ∀ j, j < n → ¬ (kAt T j, vAt T j) ∈ H → j = p ∨ kAt T j % 64 < kAt T p % 64 ∨ (kAt T j % 64 = kAt T p % 64 ∧ p < j)
  | 0 => Or.inl ⟨rfl, fun j hj => absurd hj (Nat.not_lt_zero j)⟩
  | n + 1 => by
    rw [cb]
    rcases cb_spec (H := H) (T := T) n with ⟨e, hn⟩ | ⟨p, hp, e, hq, hn⟩
    · rw [e]
      by_cases c : (kAt T n, vAt T n) ∈ H
      · rw [if_neg (fun q => q.1 c)]
        refine Or.inl ⟨rfl, fun j hj => ?_⟩
        by_cases t : j = n
        · rw [t]; exact c
        · exact hn j (by omega)
      · rw [if_pos ⟨c, Or.inl (by omega)⟩]
        refine Or.inr ⟨n, by omega, rfl, c, fun j hj hj2 => ?_⟩
        by_cases t : j = n
        · exact Or.inl t
        · exact absurd (hn j (by omega)) hj2
    · rw [e, Int.toNat_natCast]
      by_cases c : (kAt T n, vAt T n) ∈ H
      · rw [if_neg (fun q => q.1 c)]
        refine Or.inr ⟨p, by omega, rfl, hq, fun j hj hj2 => ?_⟩
        by_cases t : j = n
        · rw [t] at hj2; exact absurd c hj2
        · exact hn j (by omega) hj2
      · by_cases d : kAt T p % 64 < kAt T n % 64
        · rw [if_pos ⟨c, Or.inr d⟩]
          refine Or.inr ⟨n, by omega, rfl, c, fun j hj hj2 => ?_⟩
          by_cases t : j = n
          · exact Or.inl t
          · rcases hn j (by omega) hj2 with a | a | a
            · rw [a]; exact Or.inr (Or.inl d)
            · exact Or.inr (Or.inl (by omega))
            · exact Or.inr (Or.inl (by omega))
        · rw [if_neg (by
            rintro ⟨-, a | a⟩
            · omega
            · exact d a)]
          refine Or.inr ⟨p, by omega, rfl, hq, fun j hj hj2 => ?_⟩
          by_cases t : j = n
          · rw [t]
            by_cases g : kAt T n % 64 = kAt T p % 64
            · exact Or.inr (Or.inr ⟨g, hp⟩)
            · exact Or.inr (Or.inl (by omega))
          · exact hn j (by omega) hj2
/-- the prefix that must go next: the shortest, the first of those -/
def rb (H T : List (Int × Int)) : Nat → Int
  | 0 => -2
  | n + 1 => if ¬ hasK T (kAt H n) = true ∧ (rb H T n < 0 ∨ kAt H n % 64 < kAt H (rb H T n).toNat % 64) then (n : Int) else rb H T n
theorem rb_spec {H T : List (Int × Int)} : ∀ n, (rb H T n = -2 ∧ ∀ j, j < n → hasK T (kAt H j) = true) ∨ ∃ p : Nat, p < n ∧ rb H T n = (p : Int) ∧ ¬ hasK T (kAt H p) = true ∧ ∀ j, j < n → ¬ hasK T (kAt H j) = true → j = p ∨ kAt H p % 64 < kAt H j % 64 ∨ (kAt H j % 64 = kAt H p % 64 ∧ p < j)
  | 0 => Or.inl ⟨rfl, fun j hj => absurd hj (Nat.not_lt_zero j)⟩
  | n + 1 => by
    rw [rb]
    rcases rb_spec (H := H) (T := T) n with ⟨e, hn⟩ | ⟨p, hp, e, hq, hn⟩
    · rw [e]
      by_cases c : hasK T (kAt H n) = true
      · rw [if_neg (fun q => q.1 c)]
        refine Or.inl ⟨rfl, fun j hj => ?_⟩
        by_cases t : j = n
        · rw [t]; exact c
        · exact hn j (by omega)
      · rw [if_pos ⟨c, Or.inl (by omega)⟩]
        refine Or.inr ⟨n, by omega, rfl, c, fun j hj hj2 => ?_⟩
        by_cases t : j = n
        · exact Or.inl t
        · exact absurd (hn j (by omega)) hj2
    · rw [e, Int.toNat_natCast]
      by_cases c : hasK T (kAt H n) = true
      · rw [if_neg (fun q => q.1 c)]
        refine Or.inr ⟨p, by omega, rfl, hq, fun j hj hj2 => ?_⟩
        by_cases t : j = n
        · rw [t] at hj2; exact absurd c hj2
        · exact hn j (by omega) hj2
      · by_cases d : kAt H n % 64 < kAt H p % 64
        · rw [if_pos ⟨c, Or.inr d⟩]
          refine Or.inr ⟨n, by omega, rfl, c, fun j hj hj2 => ?_⟩
          by_cases t : j = n
          · exact Or.inl t
          · rcases hn j (by omega) hj2 with a | a | a
            · rw [a]; exact Or.inr (Or.inl d)
            · exact Or.inr (Or.inl (by omega))
            · exact Or.inr (Or.inl (by omega))
        · rw [if_neg (by
            rintro ⟨-, a | a⟩
            · omega
            · exact d a)]
          refine Or.inr ⟨p, by omega, rfl, hq, fun j hj hj2 => ?_⟩
          by_cases t : j = n
          · rw [t]
            by_cases g : kAt H n % 64 = kAt H p % 64
            · exact Or.inr (Or.inr ⟨g, hp⟩)
            · exact Or.inr (Or.inl (by omega))
          · exact hn j (by omega) hj2
theorem kAt_mem {L : List (Int × Int)} {t : Int × Int} (ht : t ∈ L) : ∃ j, j < L.length ∧ t = (kAt L j, vAt L j) := by
  obtain ⟨j, hj⟩ := List.getElem?_of_mem ht
  have hj2 := (List.getElem?_eq_some_iff.mp hj).1
  refine ⟨j, hj2, ?_⟩
  rw [kAt_get hj2] at hj
  exact (Option.some.inj hj).symm
theorem kAt_in {L : List (Int × Int)} {j : Nat} (hj : j < L.length) : (kAt L j, vAt L j) ∈ L := List.mem_of_getElem? (kAt_get hj)
theorem kAt_lt2 {L : List (Int × Int)} (hL : lOk L) {i j : Nat} (hij : i < j) (hj : j < L.length) : kAt L i < kAt L j := by
  have h1 := List.pairwise_iff_getElem.mp hL.2 i j (by omega) hj hij
  have h2 := (kAt_of (List.getElem?_eq_getElem (show i < L.length by omega))).1
  have h3 := (kAt_of (List.getElem?_eq_getElem hj)).1
  rw [h2, h3]
  exact h1
theorem cb_head {H T : List (Int × Int)} (hH : lOk H) (hT : lOk T) {p : Nat} (hp : p < T.length) (e : cb H T T.length = (p : Int)) : ∃ l, plL H T = (32 - kAt T p % 64, kAt T p, (if hasK H (kAt T p) = true then 1 else 0), vAt T p) :: l := by
  rcases cb_spec (H := H) (T := T) T.length with ⟨e2, -⟩ | ⟨p', hp', e2, hq, hn⟩
  · omega
  · have : p' = p := by omega
    subst this
    have hok := plL_ok hH hT
    refine head_min hok.1 ((hok.2.1 _).mpr (Or.inl (tgC_mem.mpr ⟨_, kAt_in hp, hq, rfl⟩))) (fun y hy => ?_)
    rcases (hok.2.1 y).mp hy with a | a
    · obtain ⟨t, t1, t2, t3⟩ := tgC_mem.mp a
      obtain ⟨j, hj, rfl⟩ := kAt_mem t1
      rcases hn j hj t2 with b | b | b
      · left; rw [t3, b]
      · right; rw [t3]; unfold ltX; simp only; omega
      · right
        have := kAt_lt2 hT b.2 hj
        rw [t3]; unfold ltX; simp only; omega
    · obtain ⟨t, t1, t2, t3⟩ := rmC_mem.mp a
      right
      have h1 := (hT.1 _ (kAt_in hp)).1.1.1
      have h2 := (hH.1 _ t1).1.1.1
      rw [t3]; unfold ltX; simp only; simp only at h1 h2; omega
theorem rb_head {H T : List (Int × Int)} (hH : lOk H) (hT : lOk T) (hc : cb H T T.length < 0) : (rb H T H.length < 0 → plL H T = []) ∧ ∀ p : Nat, p < H.length → rb H T H.length = (p : Int) → ∃ l, plL H T = (33 + kAt H p % 64, kAt H p, 2, vAt H p) :: l := by
  have ht : ∀ y, ¬ y ∈ tgC H T := fun y hy => by
    obtain ⟨t, t1, t2, t3⟩ := tgC_mem.mp hy
    obtain ⟨j, hj, rfl⟩ := kAt_mem t1
    rcases cb_spec (H := H) (T := T) T.length with ⟨-, e2⟩ | ⟨p', hp', e2, -, -⟩
    · exact t2 (e2 j hj)
    · omega
  have hok := plL_ok hH hT
  refine ⟨fun c => ?_, fun p hp e => ?_⟩
  · rw [List.eq_nil_iff_forall_not_mem]
    intro y hy
    rcases (hok.2.1 y).mp hy with a | a
    · exact ht y a
    · obtain ⟨t, t1, t2, t3⟩ := rmC_mem.mp a
      obtain ⟨j, hj, rfl⟩ := kAt_mem t1
      rcases rb_spec (H := H) (T := T) H.length with ⟨-, e2⟩ | ⟨p', hp', e2, -, -⟩
      · exact t2 (e2 j hj)
      · omega
  · rcases rb_spec (H := H) (T := T) H.length with ⟨e2, -⟩ | ⟨p', hp', e2, hq, hn⟩
    · omega
    · have : p' = p := by omega
      subst this
      refine head_min hok.1 ((hok.2.1 _).mpr (Or.inr (rmC_mem.mpr ⟨_, kAt_in hp, hq, rfl⟩))) (fun y hy => ?_)
      rcases (hok.2.1 y).mp hy with a | a
      · exact absurd a (ht y)
      · obtain ⟨t, t1, t2, t3⟩ := rmC_mem.mp a
        obtain ⟨j, hj, rfl⟩ := kAt_mem t1
        rcases hn j hj t2 with b | b | b
        · left; rw [t3, b]
        · right; rw [t3]; unfold ltX; simp only; omega
        · right
          have := kAt_lt2 hH b.2 hj
          rw [t3]; unfold ltX; simp only; omega
