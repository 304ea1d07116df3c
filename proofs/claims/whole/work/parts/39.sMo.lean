/-! the reference's rows of threes: finding, taking out -/
theorem ft_keyeq {a v l1 l : Int} (ha : ft_in a) (hv : ft_in v) (h1 : 0 ≤ l1 ∧ l1 ≤ 32) (h2 : 0 ≤ l ∧ l ≤ 32) : 64 * pUn a + l1 = 64 * pUn v + l ↔ a = v ∧ l1 = l := by
  have := ha.1; have := ha.2; have := hv.1; have := hv.2
  unfold pUn
  omega
theorem ix3 {o i : Nat} (h : o + 3 * i ≤ 600) : ft_add (o : Int) (ft_mul 3 (i : Int)) = ((o + 3 * i : Nat) : Int) := by
  rw [ft_mul_eq ⟨by omega, by omega⟩, ft_add_eq ⟨by omega, by omega⟩]
  omega
theorem ix1 {k d : Nat} (h : k + d ≤ 6000) : ft_add (k : Int) (d : Int) = ((k + d : Nat) : Int) := by
  rw [ft_add_eq ⟨by omega, by omega⟩]
  omega
theorem v_Mo_placeOf {h : ftH} (hw : ft_wf h) {o n : Nat} (ho : o + 3 * n ≤ 520) (hr : ∀ k, k < n → 0 ≤ h 310 (o + 3 * k + 1) ∧ h 310 (o + 3 * k + 1) ≤ 32) {v l : Int} (hv : ft_in v) (hl : 0 ≤ l ∧ l ≤ 32) {R : Option ftV → ftH → Prop}
    (hk : ∀ r : Int, (r = -2 ∧ ∀ q ∈ ft_ml h 310 o n, q.1 ≠ 64 * pUn v + l) ∨ (∃ (p : Nat) (q : Int × Int), r = p ∧ p < n ∧ (ft_ml h 310 o n)[p]? = some q ∧ q.1 = 64 * pUn v + l) → R (some (.inl r)) h) :
    ∀ m i : Nat, i + m = n → (∀ j, j < i → 64 * pUn (h 310 (o + 3 * j)) + h 310 (o + 3 * j + 1) ≠ 64 * pUn v + l) → ft_V k_Mo_placeOf 3 [some (.inr (.inr 309)), some (.inl (o : Int)), some (.inl (n : Int)), some (.inl v), some (.inl l), some (.inl (i : Int))] [] h R := by
  intro m
  induction m with
  | zero =>
    intro i hi hb
    refine b_Mo_placeOf_3 ⟨fun c => hk _ (Or.inl ⟨rfl, fun q hq => ?_⟩), fun c => absurd (by omega) c⟩
    obtain ⟨j, hj⟩ := List.getElem?_of_mem hq
    have hlt := (List.getElem?_eq_some_iff.mp hj).1
    rw [ft_ml_len] at hlt
    rw [ft_ml_get hlt] at hj
    cases hj
    exact hb j (by omega)
  | succ m ih =>
    intro i hi hb
    have a1 := ix3 (o := o) (i := i) (by omega)
    have a2 : ft_add ((o + 3 * i : Nat) : Int) 1 = ((o + 3 * i + 1 : Nat) : Int) := ix1 (d := 1) (by omega)
    have a3 : ft_add (i : Int) 1 = ((i + 1 : Nat) : Int) := ix1 (d := 1) (by omega)
    have hri := hr i (by omega)
    have hin : ft_in (h 310 (o + 3 * i)) := hw 310 (o + 3 * i)
    have hke := ft_keyeq (v := v) hin hv hri hl
    have next : ¬ (h 310 (o + 3 * i) = v ∧ h 310 (o + 3 * i + 1) = l) → ft_V k_Mo_placeOf 3 [some (.inr (.inr 309)), some (.inl (o : Int)), some (.inl (n : Int)), some (.inl v), some (.inl l), some (.inl ((i + 1 : Nat) : Int))] [] h R := fun hne => ih (i + 1) (by omega) (fun j hj => by
      by_cases e : j = i
      · rw [e]; exact fun q => hne (hke.mp q)
      · exact hb j (by omega))
    refine b_Mo_placeOf_3 ⟨fun c => absurd c (by omega), fun c => ?_⟩
    rw [a1, a2, a3, Int.toNat_natCast, Int.toNat_natCast]
    refine ⟨⟨by omega, by omega⟩, fun d => next (fun q => d q.1), fun d => ⟨⟨by omega, by omega⟩, fun e => next (fun q => e q.2), fun e => hk _ (Or.inr ⟨i, _, rfl, by omega, ft_ml_get (by omega), hke.mpr ⟨d, e⟩⟩)⟩⟩
theorem c_Mo_placeOf {h : ftH} {o n : Nat} (ho : o + 3 * n ≤ 520) (hr : ∀ k, k < n → 0 ≤ h 310 (o + 3 * k + 1) ∧ h 310 (o + 3 * k + 1) ≤ 32) {v l : Int} (hv : ft_in v) (hl : 0 ≤ l ∧ l ≤ 32) : ft_C k_Mo_placeOf [.inr (.inr 309), .inl (o : Int), .inl (n : Int), .inl v, .inl l] h (fun q h' => h' = h ∧ ∃ r : Int, q = some (.inl r) ∧ ((r = -2 ∧ ∀ q ∈ ft_ml h 310 o n, q.1 ≠ 64 * pUn v + l) ∨ (∃ (p : Nat) (q : Int × Int), r = p ∧ p < n ∧ (ft_ml h 310 o n)[p]? = some q ∧ q.1 = 64 * pUn v + l))) :=
  ft_enter (n := 1) rfl (Nat.le_of_ble_eq_true rfl) rfl (fv_wf (fun hw => b_Mo_placeOf_0 (v_Mo_placeOf hw ho hr hv hl (fun r hr => ⟨rfl, r, rfl, hr⟩) n 0 (by omega) (fun j hj => absurd hj (Nat.not_lt_zero j)))))
theorem v_Mo_takesOut {h0 : ftH} {o n a : Nat} (ho : o + 3 * n ≤ 520) (ha : a < n) {R : Option ftV → ftH → Prop} (hk : ∀ h' : ftH, (∀ k, k ≠ 310 → h' k = h0 k) → (∀ j, j < o + 3 * a ∨ o + 3 * n - 3 ≤ j → h' 310 j = h0 310 j) → (∀ j, o + 3 * a ≤ j → j < o + 3 * n - 3 → h' 310 j = h0 310 (j + 3)) → R none h') :
    ∀ (m i : Nat) (h : ftH), i + m = o + 3 * n - 3 → o + 3 * a ≤ i → (∀ k, k ≠ 310 → h k = h0 k) → (∀ j, j < o + 3 * a ∨ i ≤ j → h 310 j = h0 310 j) → (∀ j, o + 3 * a ≤ j → j < i → h 310 j = h0 310 (j + 3)) → ft_V k_Mo_takesOut 7 [some (.inr (.inr 309)), some (.inl (o : Int)), some (.inl (n : Int)), none, some (.inl (i : Int))] [] h R := by
  have a1 := ix3 (o := o) (i := n) (by omega)
  have a2 : ft_sub ((o + 3 * n : Nat) : Int) 3 = ((o + 3 * n - 3 : Nat) : Int) := by rw [ft_sub_eq ⟨by omega, by omega⟩]; omega
  intro m
  induction m with
  | zero =>
    intro i h hi hai hf h1 h2
    refine b_Mo_takesOut_7 ?_
    rw [a1, a2]
    exact ⟨fun c => hk h hf (fun j hj => h1 j (by omega)) (fun j j1 j2 => h2 j j1 (by omega)), fun c => absurd (by omega) c⟩
  | succ m ih =>
    intro i h hi hai hf h1 h2
    refine b_Mo_takesOut_7 ?_
    have a3 : ft_add (i : Int) 1 = ((i + 1 : Nat) : Int) := ix1 (d := 1) (by omega)
    have a4 : ft_add (i : Int) 3 = ((i + 3 : Nat) : Int) := ix1 (d := 3) (by omega)
    rw [a1, a2, a3, a4, Int.toNat_natCast, Int.toNat_natCast]
    refine ⟨fun c => absurd c (by omega), fun c => ⟨⟨by omega, by omega⟩, ⟨by omega, by omega⟩, fun g e => ?_⟩⟩
    refine ih (i + 1) g (by omega) (by omega) (fun k hk' => by rw [e, ft_hs_ne k hk', hf k hk']) (fun j hj => by rw [e, ft_hs_j (by omega), h1 j (by omega)]) (fun j j1 j2 => ?_)
    by_cases q : j = i
    · rw [q, e, ft_hs_same, h1 (i + 3) (by omega)]
    · rw [e, ft_hs_j q, h2 j j1 (by omega)]
/-- a three is taken out of n -/
theorem c_Mo_takesOut {h : ftH} {o n a : Nat} (ho : o + 3 * n ≤ 520) (ha : a < n) (hr : ∀ k, k < n → 0 ≤ h 310 (o + 3 * k + 1) ∧ h 310 (o + 3 * k + 1) ≤ 32) : ft_C k_Mo_takesOut [.inr (.inr 309), .inl (o : Int), .inl (n : Int), .inl (a : Int)] h (fun r h' => r = none ∧ (∀ k, k ≠ 310 → h' k = h k) ∧ (∀ j, j < o ∨ o + 3 * n ≤ j → h' 310 j = h 310 j) ∧ ft_ml h' 310 o (n - 1) = (ft_ml h 310 o n).eraseIdx a ∧ (∀ k, k < n - 1 → 0 ≤ h' 310 (o + 3 * k + 1) ∧ h' 310 (o + 3 * k + 1) ≤ 32)) := by
  refine ft_enter (n := 1) rfl (Nat.le_of_ble_eq_true rfl) rfl (b_Mo_takesOut_0 (fun n1 e1 => ?_))
  rw [e1, ix3 (o := o) (i := a) (by omega)]
  refine v_Mo_takesOut ho ha (fun h' f1 f2 f3 => ⟨rfl, f1, fun j hj => f2 j (by omega), ?_, fun k hk => ?_⟩) (o + 3 * n - 3 - (o + 3 * a)) (o + 3 * a) h (by omega) (Nat.le_refl _) (fun _ _ => rfl) (fun _ _ => rfl) (fun j j1 j2 => absurd j2 (by omega))
  · apply List.ext_getElem?
    intro j
    rw [List.getElem?_eraseIdx]
    split
    · next c => rw [ft_ml_get (by omega), ft_ml_get (by omega), f2 (o + 3 * j) (by omega), f2 (o + 3 * j + 1) (by omega), f2 (o + 3 * j + 2) (by omega)]
    · next c =>
      by_cases d : j < n - 1
      · rw [ft_ml_get d, ft_ml_get (by omega), f3 (o + 3 * j) (by omega) (by omega), f3 (o + 3 * j + 1) (by omega) (by omega), f3 (o + 3 * j + 2) (by omega) (by omega), show o + 3 * j + 3 = o + 3 * (j + 1) by omega, show o + 3 * j + 1 + 3 = o + 3 * (j + 1) + 1 by omega, show o + 3 * j + 2 + 3 = o + 3 * (j + 1) + 2 by omega]
      · rw [ft_ml_none (by omega), ft_ml_none (by omega)]
  · by_cases c : k < a
    · rw [f2 (o + 3 * k + 1) (by omega)]
      exact hr k (by omega)
    · rw [f3 (o + 3 * k + 1) (by omega) (by omega), show o + 3 * k + 1 + 3 = o + 3 * (k + 1) + 1 by omega]
      exact hr (k + 1) (by omega)
/-! the longest match: the reference's search -/
/-- a prefix contains an address, as the reference tests it -/
def pCt (k x : Int) : Prop := k / 64 / pSz (k % 64) = x / pSz (k % 64)
theorem pCt_iff {k x : Int} (hk : pK k) : pCt k x ↔ pIn k x := by
  have hp := pSz_pos (k % 64)
  have h0 := hk.2.2
  unfold pCt pIn
  generalize pSz (k % 64) = S at *
  have e1 := Int.mul_ediv_add_emod (k / 64) S
  have e2 := Int.mul_ediv_add_emod x S
  have b2 := Int.emod_nonneg x (show S ≠ 0 by omega)
  have b3 := Int.emod_lt_of_pos x hp
  rw [h0, Int.add_zero] at e1
  constructor
  · intro h
    rw [h] at e1
    omega
  · rintro ⟨h1, h2⟩
    have l1 : k / 64 / S ≤ x / S := Int.ediv_le_ediv hp h1
    have l2 : x / S < k / 64 / S + 1 := by
      apply Int.ediv_lt_of_lt_mul hp
      rw [Int.add_mul, Int.one_mul, Int.mul_comm, e1]
      exact h2
    omega
def isLg (l : List (Int × Int)) (x b r : Int) : Prop := (r = -2 ∧ ∀ q ∈ l, ¬ (q.1 % 64 < b ∧ pCt q.1 x)) ∨ ∃ (p : Nat) (q : Int × Int), r = p ∧ l[p]? = some q ∧ (q.1 % 64 < b ∧ pCt q.1 x) ∧ ∀ (j : Nat) (s : Int × Int), l[j]? = some s → (s.1 % 64 < b ∧ pCt s.1 x) → s.1 % 64 ≤ q.1 % 64 ∧ (j < p → s.1 % 64 < q.1 % 64)
theorem v_Mo_longest {h : ftH} {o n : Nat} (ho : o + 3 * n ≤ 520) (hr : ∀ k, k < n → 0 ≤ h 310 (o + 3 * k + 1) ∧ h 310 (o + 3 * k + 1) ≤ 32) {x b : Int} {R : Option ftV → ftH → Prop} (hk : ∀ r : Int, isLg (ft_ml h 310 o n) (pUn x) b r → R (some (.inl r)) h) :
    ∀ (m i : Nat) (r : Int), i + m = n → isLg ((ft_ml h 310 o n).take i) (pUn x) b r → ft_V k_Mo_longest 7 [some (.inr (.inr 309)), some (.inl (o : Int)), some (.inl (n : Int)), some (.inl x), some (.inl b), some (.inl r), some (.inl (i : Int)), none] [] h R := by
  intro m
  induction m with
  | zero =>
    intro i r hi hlg
    rw [List.take_of_length_le (by rw [ft_ml_len]; omega)] at hlg
    exact b_Mo_longest_7 ⟨fun c => hk r hlg, fun c => absurd (by omega) c⟩
  | succ m ih =>
    intro i r hi hlg
    have a1 := ix3 (o := o) (i := i) (by omega)
    have a2 : ft_add ((o + 3 * i : Nat) : Int) 1 = ((o + 3 * i + 1 : Nat) : Int) := ix1 (d := 1) (by omega)
    have a3 : ft_add (i : Int) 1 = ((i + 1 : Nat) : Int) := ix1 (d := 1) (by omega)
    have hri := hr i (by omega)
    have hget : (ft_ml h 310 o n)[i]? = some (64 * pUn (h 310 (o + 3 * i)) + h 310 (o + 3 * i + 1), h 310 (o + 3 * i + 2)) := ft_ml_get (by omega)
    have hkl : (64 * pUn (h 310 (o + 3 * i)) + h 310 (o + 3 * i + 1)) % 64 = h 310 (o + 3 * i + 1) := by omega
    have hkv : (64 * pUn (h 310 (o + 3 * i)) + h 310 (o + 3 * i + 1)) / 64 = pUn (h 310 (o + 3 * i)) := by omega
    have hct : pCt (64 * pUn (h 310 (o + 3 * i)) + h 310 (o + 3 * i + 1)) (pUn x) ↔ pUn (h 310 (o + 3 * i)) / pSz (h 310 (o + 3 * i + 1)) = pUn x / pSz (h 310 (o + 3 * i + 1)) := by
      unfold pCt
      rw [hkl, hkv]
    have hlen : ((ft_ml h 310 o n).take i).length = i := by rw [List.length_take, ft_ml_len]; omega
    have hts := take_succ_get _ i _ hget
    -- it stays
    have stay : (¬ (h 310 (o + 3 * i + 1) < b ∧ pUn (h 310 (o + 3 * i)) / pSz (h 310 (o + 3 * i + 1)) = pUn x / pSz (h 310 (o + 3 * i + 1))) ∨ (∃ (p : Nat) (q : Int × Int), r = p ∧ ((ft_ml h 310 o n).take i)[p]? = some q ∧ h 310 (o + 3 * i + 1) ≤ q.1 % 64)) → isLg ((ft_ml h 310 o n).take (i + 1)) (pUn x) b r := by
      intro hc
      rw [hts]
      rcases hlg with ⟨rfl, hno⟩ | ⟨p, q, rfl, h1, h2, h3⟩
      · refine Or.inl ⟨rfl, fun s hs => ?_⟩
        rcases List.mem_append.mp hs with hs | hs
        · exact hno s hs
        · rw [List.mem_singleton.mp hs]
          rcases hc with hc | ⟨p, q, hp, -⟩
          · rw [hkl, hct]; exact hc
          · omega
      · have hp := (List.getElem?_eq_some_iff.mp h1).1
        rw [hlen] at hp
        refine Or.inr ⟨p, q, rfl, by rw [List.getElem?_append_left (by omega)]; exact h1, h2, fun j s hs hcond => ?_⟩
        by_cases c : j < i
        · rw [List.getElem?_append_left (by omega)] at hs
          exact h3 j s hs hcond
        · rw [List.getElem?_append_right (by omega), hlen] at hs
          have e0 : j - i = 0 := by
            have := (List.getElem?_eq_some_iff.mp hs).1
            simp at this
            omega
          rw [e0] at hs
          cases hs
          rw [hkl, hct] at hcond
          rcases hc with hc | ⟨p', q', hpe, hq', hle⟩
          · exact absurd hcond hc
          · have : p' = p := by omega
            subst this
            rw [h1] at hq'
            cases hq'
            rw [hkl]
            exact ⟨hle, fun hlt => by omega⟩
    -- it is the new one
    have take : (h 310 (o + 3 * i + 1) < b ∧ pUn (h 310 (o + 3 * i)) / pSz (h 310 (o + 3 * i + 1)) = pUn x / pSz (h 310 (o + 3 * i + 1))) → (r = -2 ∨ (∃ (p : Nat) (q : Int × Int), r = p ∧ ((ft_ml h 310 o n).take i)[p]? = some q ∧ q.1 % 64 < h 310 (o + 3 * i + 1))) → isLg ((ft_ml h 310 o n).take (i + 1)) (pUn x) b (i : Int) := by
      intro hc hlt
      rw [hts]
      refine Or.inr ⟨i, _, rfl, by rw [List.getElem?_append_right (by omega), hlen, Nat.sub_self]; rfl, by rw [hkl, hct]; exact hc, fun j s hs hcond => ?_⟩
      rw [hkl]
      by_cases c : j < i
      · rw [List.getElem?_append_left (by omega)] at hs
        rcases hlg with ⟨rfl, hno⟩ | ⟨p, q, rfl, h1, h2, h3⟩
        · exact absurd hcond (hno s (List.mem_of_getElem? hs))
        · rcases hlt with hlt | ⟨p', q', hpe, hq', hl'⟩
          · omega
          · have : p' = p := by omega
            subst this
            rw [h1] at hq'
            cases hq'
            have := (h3 j s hs hcond).1
            exact ⟨by omega, fun _ => by omega⟩
      · rw [List.getElem?_append_right (by omega), hlen] at hs
        have e0 : j - i = 0 := by
          have := (List.getElem?_eq_some_iff.mp hs).1
          simp at this
          omega
        rw [e0] at hs
        cases hs
        rw [hkl]
        exact ⟨Int.le_refl _, fun q => absurd q c⟩
    refine b_Mo_longest_7 ⟨fun c => absurd c (by omega), fun c => ?_⟩
    rw [a1, a2, a3, Int.toNat_natCast, Int.toNat_natCast]
    refine ⟨⟨by omega, by omega⟩, fun n1 e1 => ?_⟩
    rw [e1]
    refine ⟨fun d => ih (i + 1) r (by omega) (stay (Or.inl (fun q => by omega))), fun d => ⟨⟨by omega, by omega⟩, hri, fun e => ih (i + 1) r (by omega) (stay (Or.inl (fun q => e q.2))), fun e => ⟨fun f => ?_, fun f => ?_⟩⟩⟩
    · refine ih (i + 1) _ (by omega) (take ⟨by omega, e⟩ (Or.inl ?_))
      rcases hlg with ⟨q, -⟩ | ⟨p, q, q1, -⟩
      · exact q
      · omega
    · obtain ⟨p, q, rfl, h1, h2, h3⟩ : ∃ (p : Nat) (q : Int × Int), r = p ∧ ((ft_ml h 310 o n).take i)[p]? = some q ∧ (q.1 % 64 < b ∧ pCt q.1 (pUn x)) ∧ ∀ (j : Nat) (s : Int × Int), ((ft_ml h 310 o n).take i)[j]? = some s → (s.1 % 64 < b ∧ pCt s.1 (pUn x)) → s.1 % 64 ≤ q.1 % 64 ∧ (j < p → s.1 % 64 < q.1 % 64) := by
        rcases hlg with ⟨q, -⟩ | hq
        · omega
        · exact hq
      have hp := (List.getElem?_eq_some_iff.mp h1).1
      rw [hlen] at hp
      have hq := h1
      rw [List.getElem?_take_of_lt hp, ft_ml_get (by omega)] at hq
      cases hq
      have hrp := hr p (by omega)
      have a4 := ix3 (o := o) (i := p) (by omega)
      have a5 : ft_add ((o + 3 * p : Nat) : Int) 1 = ((o + 3 * p + 1 : Nat) : Int) := ix1 (d := 1) (by omega)
      rw [a4, a5, Int.toNat_natCast]
      have hkp : (64 * pUn (h 310 (o + 3 * p)) + h 310 (o + 3 * p + 1)) % 64 = h 310 (o + 3 * p + 1) := by omega
      refine ⟨⟨by omega, by omega⟩, fun g => ih (i + 1) _ (by omega) (stay (Or.inr ⟨p, _, rfl, h1, by rw [hkp]; exact g⟩)), fun g => ih (i + 1) _ (by omega) (take ⟨by omega, e⟩ (Or.inr ⟨p, _, rfl, h1, by rw [hkp]; omega⟩))⟩
theorem c_Mo_longest {h : ftH} {o n : Nat} (ho : o + 3 * n ≤ 520) (hr : ∀ k, k < n → 0 ≤ h 310 (o + 3 * k + 1) ∧ h 310 (o + 3 * k + 1) ≤ 32) {x b : Int} : ft_C k_Mo_longest [.inr (.inr 309), .inl (o : Int), .inl (n : Int), .inl x, .inl b] h (fun q h' => h' = h ∧ ∃ r : Int, q = some (.inl r) ∧ isLg (ft_ml h 310 o n) (pUn x) b r) :=
  ft_enter (n := 3) rfl (Nat.le_of_ble_eq_true rfl) rfl (b_Mo_longest_0 (fun n1 e1 => v_Mo_longest ho hr (fun r hr => ⟨rfl, r, rfl, hr⟩) n 0 n1 (by omega) (Or.inl ⟨e1, fun q hq => by simp at hq⟩)))
