/-! prefix sets: putting in, removing, copying -/
/-- a list of (key, hop) as a set of prefixes has it -/
def lOk (l : List (Int × Int)) : Prop := (∀ q ∈ l, pK q.1 ∧ 0 ≤ q.2 ∧ q.2 ≤ 16) ∧ l.Pairwise (fun x y => x.1 < y.1)
theorem ft_ps_list {h : ftH} {a : Nat} (hs : ft_ps h a) : lOk (ft_pl h a) := by
  refine ⟨fun q hq => ?_, ?_⟩
  · obtain ⟨i, hi⟩ := List.getElem?_of_mem hq
    have hlt : (i : Int) < h a 2 := by
      have := (List.getElem?_eq_some_iff.mp hi).1
      rw [ft_pl_len] at this
      omega
    rw [ft_pl_get hlt] at hi
    cases hi
    exact ⟨hs.2.1 i hlt, hs.2.2.1 i hlt⟩
  · rw [List.pairwise_iff_getElem]
    intro i j hi hj hij
    rw [ft_pl_len] at hi hj
    have e1 := List.getElem?_eq_some_iff.mp (ft_pl_get (h := h) (a := a) (i := i) (by omega))
    have e2 := List.getElem?_eq_some_iff.mp (ft_pl_get (h := h) (a := a) (i := j) (by omega))
    rw [e1.2, e2.2]
    exact hs.2.2.2 i j hij (by omega)
theorem ft_ps_of {h : ftH} {a : Nat} (hn : 0 ≤ h a 2 ∧ h a 2 ≤ ft_ln (a + 1)) (hl : lOk (ft_pl h a)) : ft_ps h a := by
  have key : ∀ j : Nat, (j : Int) < h a 2 → (h (a + 1) j, h (a + 2) j) ∈ ft_pl h a := fun j hj => List.mem_of_getElem? (ft_pl_get hj)
  refine ⟨hn, fun j hj => (hl.1 _ (key j hj)).1, fun j hj => (hl.1 _ (key j hj)).2, fun i j hij hj => ?_⟩
  have hp := List.pairwise_iff_getElem.mp hl.2 i j (by rw [ft_pl_len]; omega) (by rw [ft_pl_len]; omega) hij
  have e1 := List.getElem?_eq_some_iff.mp (ft_pl_get (h := h) (a := a) (i := i) (by omega))
  have e2 := List.getElem?_eq_some_iff.mp (ft_pl_get (h := h) (a := a) (i := j) hj)
  rw [e1.2, e2.2] at hp
  exact hp
def insK (k v : Int) : List (Int × Int) → List (Int × Int)
  | [] => [(k, v)]
  | q :: l => if q.1 < k then q :: insK k v l else if q.1 = k then (k, v) :: l else (k, v) :: q :: l
theorem insK_at (k v : Int) : ∀ (l : List (Int × Int)) (p : Nat), p ≤ l.length → (∀ j q, j < p → l[j]? = some q → q.1 < k) → (∀ q, l[p]? = some q → k < q.1) → insK k v l = l.take p ++ (k, v) :: l.drop p
  | [], p, hp, _, _ => by simp [insK]
  | q :: l, 0, hp, h1, h2 => by
    have := h2 q rfl
    simp only [insK, List.take_zero, List.drop_zero, List.nil_append]
    rw [if_neg (by omega), if_neg (by omega)]
  | q :: l, p + 1, hp, h1, h2 => by
    have := h1 0 q (by omega) rfl
    simp only [insK, List.take_succ_cons, List.drop_succ_cons, List.cons_append]
    rw [if_pos this, insK_at k v l p (by simpa using hp) (fun j q hj hq => h1 (j + 1) q (by omega) (by simpa using hq)) (fun q hq => h2 q (by simpa using hq))]
theorem insK_set (k v : Int) : ∀ (l : List (Int × Int)) (p : Nat) (q0 : Int × Int), l[p]? = some q0 → q0.1 = k → (∀ j q, j < p → l[j]? = some q → q.1 < k) → insK k v l = l.set p (k, v)
  | [], p, q0, hp, _, _ => by simp at hp
  | q :: l, 0, q0, hp, h1, _ => by
    simp only [List.getElem?_cons_zero, Option.some.injEq] at hp
    subst hp
    simp only [insK, List.set_cons_zero]
    rw [if_neg (by omega), if_pos h1]
  | q :: l, p + 1, q0, hp, h1, h2 => by
    have := h2 0 q (by omega) rfl
    simp only [insK, List.set_cons_succ]
    rw [if_pos this, insK_set k v l p q0 (by simpa using hp) h1 (fun j q hj hq => h2 (j + 1) q (by omega) (by simpa using hq))]
theorem insK_mem {k v : Int} : ∀ (l : List (Int × Int)) (q : Int × Int), q ∈ insK k v l → q = (k, v) ∨ q ∈ l
  | [], q, h => by simp [insK] at h; exact Or.inl h
  | p :: l, q, h => by
    simp only [insK] at h
    split at h
    · rcases List.mem_cons.mp h with h | h
      · exact Or.inr (by rw [h]; exact List.mem_cons_self)
      · rcases insK_mem l q h with h | h
        · exact Or.inl h
        · exact Or.inr (List.mem_cons_of_mem _ h)
    · split at h
      · rcases List.mem_cons.mp h with h | h
        · exact Or.inl h
        · exact Or.inr (List.mem_cons_of_mem _ h)
      · rcases List.mem_cons.mp h with h | h
        · exact Or.inl h
        · exact Or.inr h
theorem insK_ok {k v : Int} (hk : pK k) (hv : 0 ≤ v ∧ v ≤ 16) : ∀ (l : List (Int × Int)), lOk l → lOk (insK k v l) := by
  intro l hl
  refine ⟨fun q hq => ?_, ?_⟩
  · rcases insK_mem l q hq with rfl | h
    · exact ⟨hk, hv⟩
    · exact hl.1 q h
  · have h2 := hl.2
    clear hl
    induction l with
    | nil => simp [insK]
    | cons p l ih =>
      rw [List.pairwise_cons] at h2
      simp only [insK]
      split
      · next c =>
        rw [List.pairwise_cons]
        refine ⟨fun q hq => ?_, ih h2.2⟩
        rcases insK_mem l q hq with rfl | h
        · exact c
        · exact h2.1 q h
      · next c =>
        split
        · next d =>
          rw [List.pairwise_cons]
          exact ⟨fun q hq => by have := h2.1 q hq; omega, h2.2⟩
        · next d =>
          rw [List.pairwise_cons]
          refine ⟨fun q hq => ?_, List.pairwise_cons.mpr h2⟩
          rcases List.mem_cons.mp hq with rfl | hq
          · show k < q.1
            omega
          · have := h2.1 q hq
            show k < q.1
            omega
theorem c_PS_put {a : Nat} (ha : ft_sh a = some (.inl 4)) {h : ftH} (hs : ft_ps h a) {key hop : Int} : ft_C k_PS_put [.inr (.inr a), .inr (.inl key), .inl hop] h (fun r h' => r = none ∧ (∀ k, k < a ∨ a + 3 ≤ k → h' k = h k) ∧ (0 ≤ h' a 2 ∧ h' a 2 ≤ ft_ln (a + 1)) ∧
    ((h a 2 < ft_ln (a + 1) ∨ ∃ j : Nat, (j : Int) < h a 2 ∧ h (a + 1) j = key) → ft_pl h' a = insK key hop (ft_pl h a)) ∧ ((∀ j : Nat, (j : Int) < h a 2 → h (a + 1) j ≠ key) → h a 2 < ft_ln (a + 1) → h' a 2 = h a 2 + 1)) := by
  have hl := ft_ln_ps ha
  obtain ⟨hn, hK, hH, hO⟩ := id hs
  refine ft_enter (n := 1) rfl (Nat.le_of_ble_eq_true rfl) rfl (b_PS_put_0 ha ⟨_, c_PS_placeOf ha hn, fun z h1 _ hw => ?_⟩)
  obtain ⟨rfl, p, hz, hp1, hp2, hp3⟩ := hw
  cases hz
  have hbelow : ∀ (j : Nat) (q : Int × Int), j < p → (ft_pl h1 a)[j]? = some q → q.1 < key := fun j q hj hq => by
    rw [ft_pl_get (by omega)] at hq
    cases hq
    exact hp2 j hj
  -- the two ways that shift
  have shift : (h1 a 2 ≤ (p : Int) ∨ key < h1 (a + 1) p) → h1 a 2 < (ft_ln (a + 1) : Int) → ∀ h6 : ftH, (∀ k, k < a ∨ a + 3 ≤ k → h6 k = h1 k) → h6 a 2 = h1 a 2 + 1 → (∀ j : Nat, j < p → h6 (a + 1) j = h1 (a + 1) j ∧ h6 (a + 2) j = h1 (a + 2) j) → (h6 (a + 1) p = key ∧ h6 (a + 2) p = hop) → (∀ j : Nat, p ≤ j → (j : Int) < h1 a 2 → h6 (a + 1) (j + 1) = h1 (a + 1) j ∧ h6 (a + 2) (j + 1) = h1 (a + 2) j) →
      ((none : Option ftV) = none ∧ (∀ k, k < a ∨ a + 3 ≤ k → h6 k = h1 k) ∧ (0 ≤ h6 a 2 ∧ h6 a 2 ≤ ft_ln (a + 1)) ∧ ((h1 a 2 < ft_ln (a + 1) ∨ ∃ j : Nat, (j : Int) < h1 a 2 ∧ h1 (a + 1) j = key) → ft_pl h6 a = insK key hop (ft_pl h1 a)) ∧ ((∀ j : Nat, (j : Int) < h1 a 2 → h1 (a + 1) j ≠ key) → h1 a 2 < ft_ln (a + 1) → h6 a 2 = h1 a 2 + 1)) := by
    intro hc hfull h6 f1 f2 f3 f4 f5
    refine ⟨rfl, f1, ⟨by omega, by omega⟩, fun _ => ?_, fun _ _ => f2⟩
    rw [insK_at key hop (ft_pl h1 a) p (by rw [ft_pl_len]; omega) hbelow (fun q hq => by
      by_cases c : (p : Int) < h1 a 2
      · rw [ft_pl_get c] at hq
        cases hq
        rcases hc with hc | hc
        · omega
        · exact hc
      · rw [ft_pl_none (by omega)] at hq
        cases hq)]
    apply List.ext_getElem?
    intro i
    have hlen : (List.take p (ft_pl h1 a)).length = p := by rw [List.length_take, ft_pl_len]; omega
    rcases Nat.lt_trichotomy i p with q | q | q
    · rw [List.getElem?_append_left (by omega), List.getElem?_take_of_lt q, ft_pl_get (by omega), ft_pl_get (by omega), (f3 i q).1, (f3 i q).2]
    · rw [List.getElem?_append_right (by omega), hlen, q, Nat.sub_self, List.getElem?_cons_zero, ft_pl_get (by omega), f4.1, f4.2]
    · obtain ⟨d, rfl⟩ : ∃ d, i = p + 1 + d := ⟨i - p - 1, by omega⟩
      rw [List.getElem?_append_right (by omega), hlen, show p + 1 + d - p = d + 1 by omega, List.getElem?_cons_succ, List.getElem?_drop]
      by_cases c : ((p + d : Nat) : Int) < h1 a 2
      · have := f5 (p + d) (by omega) c
        rw [ft_pl_get c, ft_pl_get (by omega), show p + 1 + d = p + d + 1 by omega, this.1, this.2]
      · rw [ft_pl_none (by omega), ft_pl_none (by omega)]
  have ea : h1 a 2 < (ft_ln (a + 1) : Int) → ft_add (p : Int) 1 = (p : Int) + 1 := fun _ => ft_add_eq ⟨by omega, by omega⟩
  have eb : ft_sub (h1 a 2) (p : Int) = h1 a 2 - p := ft_sub_eq ⟨by omega, by omega⟩
  have go : (h1 a 2 ≤ (p : Int) ∨ key < h1 (a + 1) p) → h1 a 2 < (ft_ln (a + 1) : Int) → ∀ h2 : ftH, h2 = ft_cp h1 (a + 1) ((p : Int)).toNat (a + 1) (ft_add (p : Int) 1).toNat (ft_sub (h1 a 2) (p : Int)).toNat → h2 a 2 = h1 a 2 ∧ ∀ h3 : ftH, h3 = ft_cp h2 (a + 2) ((p : Int)).toNat (a + 2) (ft_add (p : Int) 1).toNat (ft_sub (h2 a 2) (p : Int)).toNat → ∀ h4 : ftH, h4 = ft_hs h3 (a + 1) ((p : Int)).toNat key → ∀ h5 : ftH, h5 = ft_hs h4 (a + 2) ((p : Int)).toNat hop → ∀ h6 : ftH, h6 = ft_hs h5 a 2 (ft_add (h5 a 2) 1) →
      (∀ k, k < a ∨ a + 3 ≤ k → h6 k = h1 k) ∧ h6 a 2 = h1 a 2 + 1 ∧ (∀ j : Nat, j < p → h6 (a + 1) j = h1 (a + 1) j ∧ h6 (a + 2) j = h1 (a + 2) j) ∧ (h6 (a + 1) p = key ∧ h6 (a + 2) p = hop) ∧ (∀ j : Nat, p ≤ j → (j : Int) < h1 a 2 → h6 (a + 1) (j + 1) = h1 (a + 1) j ∧ h6 (a + 2) (j + 1) = h1 (a + 2) j) := by
    intro hc hfull h2 e2
    rw [ea hfull, eb, Int.toNat_natCast, show ((p : Int) + 1).toNat = p + 1 by omega] at e2
    have e20 : h2 a 2 = h1 a 2 := by rw [e2]; unfold ft_cp; rw [if_neg (by omega)]
    refine ⟨e20, fun h3 e3 h4 e4 h5 e5 h6 e6 => ?_⟩
    rw [ea hfull, e20, eb, Int.toNat_natCast, show ((p : Int) + 1).toNat = p + 1 by omega] at e3
    rw [Int.toNat_natCast] at e4 e5
    have e50 : h5 a 2 = h1 a 2 := by
      rw [e5, e4, e3]
      unfold ft_hs ft_cp
      rw [if_neg (by omega), if_neg (by omega), if_neg (by omega), e20]
    rw [e50, ft_add_eq ⟨by omega, by omega⟩] at e6
    refine ⟨fun k hk => ?_, ?_, fun j hj => ⟨?_, ?_⟩, ⟨?_, ?_⟩, fun j hj1 hj2 => ⟨?_, ?_⟩⟩
    · funext b
      rw [e6, e5, e4, e3, e2]
      unfold ft_hs ft_cp
      rw [if_neg (by omega), if_neg (by omega), if_neg (by omega), if_neg (by omega), if_neg (by omega)]
    · rw [e6]
      exact ft_hs_same
    · rw [e6, e5, e4, e3, e2]
      unfold ft_hs ft_cp
      rw [if_neg (by omega), if_neg (by omega), if_neg (by omega), if_neg (by omega), if_neg (by omega)]
    · rw [e6, e5, e4, e3, e2]
      unfold ft_hs ft_cp
      rw [if_neg (by omega), if_neg (by omega), if_neg (by omega), if_neg (by omega), if_neg (by omega)]
    · rw [e6, e5, e4]
      unfold ft_hs
      rw [if_neg (by omega), if_neg (by omega), if_pos (by omega)]
    · rw [e6, e5]
      unfold ft_hs
      rw [if_neg (by omega), if_pos (by omega)]
    · rw [e6, e5, e4, e3, e2]
      unfold ft_hs ft_cp
      rw [if_neg (by omega), if_neg (by omega), if_neg (by omega), if_neg (by omega), if_pos (by omega)]
      congr 1
      omega
    · rw [e6, e5, e4, e3, e2]
      unfold ft_hs ft_cp
      rw [if_neg (by omega), if_neg (by omega), if_neg (by omega), if_pos (by omega), if_neg (by omega)]
      congr 1
      omega
  have both : (h1 a 2 ≤ (p : Int) ∨ key < h1 (a + 1) p) → h1 a 2 < (ft_ln (a + 1) : Int) → (0 ≤ (p : Int) ∧ 0 ≤ ft_add (p : Int) 1 ∧ 0 ≤ ft_sub (h1 a 2) (p : Int) ∧ (p : Int) + (ft_sub (h1 a 2) (p : Int)) ≤ (ft_ln (a + 1)) ∧ (ft_add (p : Int) 1) + (ft_sub (h1 a 2) (p : Int)) ≤ (ft_ln (a + 1))) := fun _ hfull => by
    rw [ea hfull, eb]
    omega
  refine ⟨fun c => ⟨fun d => ⟨both (Or.inl c) d, fun h2 e2 => ?_⟩, fun d => ⟨rfl, fun _ _ => rfl, hn, fun q => ?_, fun _ q => absurd q d⟩⟩, fun c => ⟨⟨by omega, by omega⟩, fun e => ⟨fun d => ⟨both (Or.inr (by have : key ≤ h1 (a + 1) p := hp3 (by omega); have e9 : ¬ h1 (a + 1) p = key := e; omega)) d, fun h2 e2 => ?_⟩, fun d => ⟨rfl, fun _ _ => rfl, hn, fun q => ?_, fun _ q => absurd q d⟩⟩, fun e => ⟨⟨by omega, by omega⟩, fun h12 e12 => ?_⟩⟩⟩
  · obtain ⟨e20, g⟩ := go (Or.inl c) d h2 e2
    refine ⟨by rw [e20]; have := both (Or.inl c) d; omega, fun h3 e3 => ⟨⟨by omega, by omega⟩, fun h4 e4 => ⟨⟨by omega, by omega⟩, fun h5 e5 h6 e6 => ?_⟩⟩⟩
    obtain ⟨f1, f2, f3, f4, f5⟩ := g h3 e3 h4 e4 h5 e5 h6 e6
    exact shift (Or.inl c) d h6 f1 f2 f3 f4 f5
  · exfalso
    rcases q with q | ⟨j, hj, hjk⟩
    · exact d q
    · have := hp2 j (by omega)
      omega
  · have hc : key < h1 (a + 1) p := by
      have : key ≤ h1 (a + 1) p := hp3 (by omega)
      have e9 : ¬ h1 (a + 1) p = key := e
      omega
    obtain ⟨e20, g⟩ := go (Or.inr hc) d h2 e2
    refine ⟨by rw [e20]; have := both (Or.inr hc) d; omega, fun h3 e3 => ⟨⟨by omega, by omega⟩, fun h4 e4 => ⟨⟨by omega, by omega⟩, fun h5 e5 h6 e6 => ?_⟩⟩⟩
    obtain ⟨f1, f2, f3, f4, f5⟩ := g h3 e3 h4 e4 h5 e5 h6 e6
    exact shift (Or.inr hc) d h6 f1 f2 f3 f4 f5
  · exfalso
    rcases q with q | ⟨j, hj, hjk⟩
    · exact d q
    · have e9 : ¬ h1 (a + 1) p = key := e
      rcases Nat.lt_trichotomy j p with q | q | q
      · have := hp2 j q
        omega
      · rw [q] at hjk
        exact e9 hjk
      · have := hO p j q hj
        have := hp3 (by omega)
        omega
  · rw [Int.toNat_natCast] at e12
    have e9 : h1 (a + 1) p = key := e
    have e120 : h12 a 2 = h1 a 2 := by rw [e12]; unfold ft_hs; rw [if_neg (by omega)]
    refine ⟨rfl, fun k hk => ?_, by rw [e120]; exact hn, fun _ => ?_, fun q _ => absurd e9 (q p (by omega))⟩
    · funext b
      rw [e12]
      unfold ft_hs
      rw [if_neg (by omega)]
    · rw [insK_set key hop (ft_pl h1 a) p _ (ft_pl_get (by omega)) e9 hbelow]
      apply List.ext_getElem?
      intro i
      by_cases q : i = p
      · rw [q, List.getElem?_set_self (by rw [ft_pl_len]; omega), ft_pl_get (by rw [e120]; omega), e12]
        unfold ft_hs
        rw [if_neg (by omega), if_pos (by omega), e9]
      · rw [List.getElem?_set_ne (fun z => q z.symm)]
        by_cases c2 : (i : Int) < h1 a 2
        · rw [ft_pl_get c2, ft_pl_get (by rw [e120]; exact c2), e12]
          unfold ft_hs
          rw [if_neg (by omega), if_neg (by omega)]
        · rw [ft_pl_none (by omega), ft_pl_none (by omega)]
