/-! THE CORE OF BOTH SIDES: a state S and the states before it, P (the latest first) -/
def sOk (B : Int) (S : ftS) : Prop := (1 ≤ S.1 ∧ S.1 ≤ 40) ∧ (lOk S.2.1 ∧ (∀ q ∈ S.2.1, q.2 ≤ 15) ∧ S.2.1.length ≤ 60) ∧ (lOk S.2.2.1 ∧ (S.2.2.1.length : Int) ≤ 2 * S.1) ∧ gOk S.2.2.2.1 ∧ (S.2.2.2.2.length = 5 ∧ ∀ x ∈ S.2.2.2.2, 0 ≤ x ∧ x ≤ B)
/-- the class's side -/
def ccI (h : ftH) (S : ftS) (P : List ftS) : Prop := (ft_sz h 1 ∧ ft_sa h 1 = S) ∧ ∃ p : Nat, p < 8 ∧ h 23 2 = p ∧ h 23 1 = (P.length : Int) ∧ P.length ≤ 8 ∧ ∀ (d : Nat) (X : ftS), P[d]? = some X → ft_sz h (slot ((p + 7 - d) % 8)) ∧ ft_sa h (slot ((p + 7 - d) % 8)) = X
/-- the reference's side -/
def mcI (h : ftH) (S : ftS) (P : List ftS) : Prop := (ft_mz h 310 0 ∧ ft_ma h 310 0 = S) ∧ h 309 4 = (P.length : Int) ∧ P.length ≤ 8 ∧ ∀ (d : Nat) (X : ftS), P[d]? = some X → ft_mz h 311 (520 * (P.length - 1 - d)) ∧ ft_ma h 311 (520 * (P.length - 1 - d)) = X
theorem ft_Qw {ret : Option FieldType} {R R' : Option ftV → ftH → Prop} {D : va_G} {ad : Nat → Nat} {cA : Nat → ClassId} {a : Array Value} {s t : State} {o : Outcome} (hw : ∀ r h', R r h' → R' r h') (hq : ft_Q ret R D ad cA a s o t) : ft_Q ret R' D ad cA a s o t := by
  revert hq
  unfold ft_Q
  rcases ret with _ | ty
  · rintro ⟨⟨u, h1, h2, h3⟩, h4⟩
    exact ⟨⟨u, h1, hw _ _ h2, h3⟩, h4⟩
  · cases ty <;> (rintro ⟨⟨r, u, h1, h2, h3⟩, h4⟩; exact ⟨⟨r, u, h1, hw _ _ h2, h3⟩, h4⟩)
theorem ft_Cw {K : ftM} {av : List ftV} {h : ftH} {R R' : Option ftV → ftH → Prop} (hc : ft_C K av h R) (hw : ∀ r h', R r h' → R' r h') : ft_C K av h R' := by
  intro l D ad cA p e ha hc' hk s m args below hf happ hP hK
  obtain ⟨n, o, h1, h2, h3, hQ, L, hL⟩ := hc l D ad cA p e ha hc' hk s m args below hf happ hP hK
  exact ⟨n, o, h1, h2, h3, ft_Qw hw hQ, L, hL⟩
theorem d_Hi_save {h : ftH} {S : ftS} {P : List ftS} (hI : ccI h S P) : ft_C k_Hi_save [.inr (.inr 23), .inr (.inr 1)] h (fun r h' => r = none ∧ (∀ k, k ≠ 23 → (k < 25 ∨ 113 ≤ k) → h' k = h k) ∧ ccI h' S ((S :: P).take 8)) := by
  obtain ⟨⟨z, s⟩, p, hp, h2, h1, hP, hd⟩ := hI
  refine ft_Cw (c_Hi_save hp h2 (by omega) z) (fun r h' hw => ?_)
  obtain ⟨hr, f, sa, sz, n2, n1⟩ := hw
  have f1 : ∀ k, 1 ≤ k → k < 12 → h' k = h k := fun k k1 k2 => f k (by omega) (by unfold slot; omega)
  refine ⟨hr, fun k k1 k2 => f k k1 (by unfold slot; omega), ⟨ft_sz_same (fun k k1 k2 => f1 k (by omega) (by omega)) z, by rw [ft_sa_same (fun k k1 k2 => f1 k (by omega) (by omega)), s]⟩, (p + 1) % 8, by omega, n2, ?_, by rw [List.length_take]; omega, fun d X hX => ?_⟩
  · rw [n1, h1, List.length_take, List.length_cons]
    omega
  · have hd8 : d < 8 := by
      have := (List.getElem?_eq_some_iff.mp hX).1
      rw [List.length_take] at this
      omega
    rw [List.getElem?_take_of_lt hd8] at hX
    match d, hX, hd8 with
    | 0, hX, _ =>
      simp only [List.getElem?_cons_zero, Option.some.injEq] at hX
      rw [show ((p + 1) % 8 + 7 - 0) % 8 = p by omega]
      exact ⟨sz, by rw [sa, s, hX]⟩
    | d + 1, hX, hd8 =>
      rw [List.getElem?_cons_succ] at hX
      have := hd d X hX
      have hlt := (List.getElem?_eq_some_iff.mp hX).1
      rw [show ((p + 1) % 8 + 7 - (d + 1)) % 8 = (p + 7 - d) % 8 by omega]
      have hne : (p + 7 - d) % 8 ≠ p := by omega
      have hs : ∀ k, slot ((p + 7 - d) % 8) ≤ k → k < slot ((p + 7 - d) % 8) + 11 → h' k = h k := fun k k1 k2 => f k (by unfold slot at k1; omega) (by unfold slot at *; omega)
      exact ⟨ft_sz_same hs this.1, by rw [ft_sa_same hs, this.2]⟩
theorem d_Hi_restore {h : ftH} {S : ftS} {P : List ftS} (hI : ccI h S P) : ft_C k_Hi_restore [.inr (.inr 23), .inr (.inr 1)] h (fun r h' => (P = [] ∧ r = some (.inl 0) ∧ h' = h) ∨ (∃ X P', P = X :: P' ∧ r = some (.inl 1) ∧ (∀ k, k ≠ 23 → (k < 1 ∨ 12 ≤ k) → h' k = h k) ∧ ccI h' X P')) := by
  obtain ⟨⟨z, s⟩, p, hp, h2, h1, hP, hd⟩ := hI
  refine ft_Cw (c_Hi_restore hp h2 (by omega) (fun hne => ?_)) (fun r h' hw => ?_)
  · cases P with
    | nil => exact absurd h1 hne
    | cons X P' => exact (hd 0 X rfl).1
  · rcases hw with ⟨h0, hr, rfl⟩ | ⟨h0, hr, f, sa, sz, n2, n1⟩
    · refine Or.inl ⟨?_, hr, rfl⟩
      cases P with
      | nil => rfl
      | cons X P' => rw [List.length_cons] at h1; omega
    · cases P with
      | nil => exact absurd h1 h0
      | cons X P' =>
        rw [List.length_cons] at h1 hP
        refine Or.inr ⟨X, P', rfl, hr, f, ⟨sz, by rw [sa]; exact (hd 0 X rfl).2⟩, (p + 7) % 8, by omega, n2, by omega, by omega, fun d Y hY => ?_⟩
        have := hd (d + 1) Y (by rw [List.getElem?_cons_succ]; exact hY)
        have hlt := (List.getElem?_eq_some_iff.mp hY).1
        rw [show ((p + 7) % 8 + 7 - d) % 8 = (p + 7 - (d + 1)) % 8 by omega]
        have hs : ∀ k, slot ((p + 7 - (d + 1)) % 8) ≤ k → k < slot ((p + 7 - (d + 1)) % 8) + 11 → h' k = h k := fun k k1 k2 => f k (by unfold slot at k1; omega) (by unfold slot at *; omega)
        exact ⟨ft_sz_same hs this.1, by rw [ft_sa_same hs, this.2]⟩
theorem d_Mo_keepsPast {h : ftH} {S : ftS} {P : List ftS} (hI : mcI h S P) : ft_C k_Mo_keepsPast [.inr (.inr 309)] h (fun r h' => r = none ∧ (∀ k, k ≠ 309 → k ≠ 311 → h' k = h k) ∧ (∀ j, j ≠ 4 → j ≠ 20 → h' 309 j = h 309 j) ∧ h' 309 20 = 0 ∧ mcI h' S ((S :: P).take 8)) := by
  obtain ⟨⟨z, s⟩, h4, hP, hd⟩ := hI
  refine ft_Cw (c_Mo_keepsPast hP h4) (fun r h' hw => ?_)
  obtain ⟨hr, f1, f2, f3, m', hm, g4, g5, g6⟩ := hw
  have hlen : ((S :: P).take 8).length = m' := by rw [List.length_take, List.length_cons]; omega
  have h310 : ∀ j, j < 520 → h' 310 (0 + j) = h 310 (0 + j) := fun j _ => by rw [f1 310 (by omega) (by omega)]
  have hs := ft_ma_mv z h310
  refine ⟨hr, f1, f2, f3, ⟨hs.2, by rw [hs.1, s]⟩, by rw [g4, hlen], by rw [hlen]; omega, fun d X hX => ?_⟩
  rw [hlen]
  have hd8 : d < m' := by
    have := (List.getElem?_eq_some_iff.mp hX).1
    omega
  rw [List.getElem?_take_of_lt (by omega)] at hX
  match d, hX, hd8 with
  | 0, hX, _ =>
    simp only [List.getElem?_cons_zero, Option.some.injEq] at hX
    have := ft_ma_mv (h := h) (h' := h') (c := 310) (o := 0) (c' := 311) (o' := 520 * (m' - 1 - 0)) z (fun j hj => by rw [Nat.sub_zero, g5 j hj, Nat.zero_add])
    exact ⟨this.2, by rw [this.1, s, hX]⟩
  | d + 1, hX, hd8 =>
    rw [List.getElem?_cons_succ] at hX
    have hq := hd d X hX
    have := ft_ma_mv (h := h) (h' := h') (c := 311) (o := 520 * (P.length - 1 - d)) (c' := 311) (o' := 520 * (m' - 1 - (d + 1))) hq.1 (fun j hj => by
      have hlt := (List.getElem?_eq_some_iff.mp hX).1
      rw [g6 _ (by omega)]
      congr 1
      omega)
    exact ⟨this.2, by rw [this.1, hq.2]⟩
theorem d_Mo_undo {h : ftH} {S : ftS} {P : List ftS} (hI : mcI h S P) : ft_C k_Mo_undo [.inr (.inr 309)] h (fun r h' => (P = [] ∧ r = some (.inl (-1)) ∧ h' = h) ∨ (∃ X P', P = X :: P' ∧ r = some (.inl (P'.length : Int)) ∧ (∀ k, k ≠ 309 → k ≠ 310 → h' k = h k) ∧ (∀ j, j ≠ 4 → j ≠ 20 → h' 309 j = h 309 j) ∧ h' 309 20 = 0 ∧ mcI h' X P')) := by
  obtain ⟨⟨z, s⟩, h4, hP, hd⟩ := hI
  refine ft_Cw (c_Mo_undo hP h4) (fun r h' hw => ?_)
  rcases hw with ⟨h0, hr, rfl⟩ | ⟨h0, hr, f1, f2, f3, f4, f5⟩
  · exact Or.inl ⟨List.length_eq_zero_iff.mp h0, hr, rfl⟩
  · cases P with
    | nil => exact absurd h0 (Nat.lt_irrefl 0)
    | cons X P' =>
      have hq := hd 0 X rfl
      rw [List.length_cons] at hq f3 f5 hr hP
      rw [show P'.length + 1 - 1 = P'.length by omega] at hq f3 f5 hr
      have hs := ft_ma_mv (h := h) (h' := h') (c := 311) (o := 520 * (P'.length - 0)) (c' := 310) (o' := 0) hq.1 (fun j hj => by rw [Nat.zero_add, Nat.sub_zero, f5 j hj])
      refine Or.inr ⟨X, P', rfl, hr, f1, f2, f4, ⟨hs.2, by rw [hs.1, hq.2]⟩, f3, by omega, fun d Y hY => ?_⟩
      have h9 := hd (d + 1) Y (by rw [List.getElem?_cons_succ]; exact hY)
      rw [List.length_cons, show P'.length + 1 - 1 - (d + 1) = P'.length - 1 - d by omega] at h9
      have hk := ft_ma_mv (h := h) (h' := h') (c := 311) (o := 520 * (P'.length - 1 - d)) (c' := 311) (o' := 520 * (P'.length - 1 - d)) h9.1 (fun j _ => by rw [f1 311 (by omega) (by omega)])
      exact ⟨hk.2, by rw [hk.1, h9.2]⟩
