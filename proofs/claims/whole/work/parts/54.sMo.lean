/-! the reference's log: packets -/
theorem pUn_inj {a b : Int} (ha : ft_in a) (hb : ft_in b) : pUn a = pUn b ↔ a = b := by
  have := ha.1; have := ha.2; have := hb.1; have := hb.2
  unfold pUn
  omega
/-- appending at the reference's log -/
theorem v_Mo_app {o : Nat} (ho : o = 190) {h : ftH} {n : Nat} (hn : h 310 1 = n) (h40 : n < 40) {x m : Int} : ∀ h6 : ftH, h6 = ft_hs h 310 (ft_add 190 (ft_mul 2 (h 310 1))).toNat x → (0 ≤ ft_add 190 (ft_mul 2 (h 310 1)) ∧ ft_add 190 (ft_mul 2 (h 310 1)) < 520) ∧ (0 ≤ ft_add (ft_add 190 (ft_mul 2 (h6 310 1))) 1 ∧ ft_add (ft_add 190 (ft_mul 2 (h6 310 1))) 1 < 520) ∧ ∀ h7 : ftH, h7 = ft_hs h6 310 (ft_add (ft_add 190 (ft_mul 2 (h6 310 1))) 1).toNat m → ∀ h8 : ftH, h8 = ft_hs h7 310 1 (ft_add (h7 310 1) 1) → (∀ k, k ≠ 310 → h8 k = h k) ∧ h8 310 1 = ((n + 1 : Nat) : Int) ∧ (∀ j, j ≠ 1 → (j < o ∨ o + 80 ≤ j) → h8 310 j = h 310 j) ∧ ft_gl h8 310 o (n + 1) = ft_gl h 310 o n ++ [(pUn x, m)] := by
  intro h6 e6
  rw [hn, show (190 : Int) = ((o : Nat) : Int) by omega, ix2 (by omega), Int.toNat_natCast] at e6
  have k6 : h6 310 1 = n := by rw [e6, ft_hs_j (by omega), hn]
  rw [hn, k6, show (190 : Int) = ((o : Nat) : Int) by omega, ix2 (by omega), ft_add_eq ⟨by omega, by omega⟩]
  refine ⟨⟨by omega, by omega⟩, ⟨by omega, by omega⟩, fun h7 e7 h8 e8 => ?_⟩
  rw [show (((o + 2 * n : Nat) : Int) + 1).toNat = o + 2 * n + 1 by omega] at e7
  have k7 : h7 310 1 = n := by rw [e7, ft_hs_j (by omega), k6]
  rw [k7, ft_add_eq ⟨by omega, by omega⟩] at e8
  have g0 : h8 310 (o + 2 * n) = x := by rw [e8, ft_hs_j (by omega), e7, ft_hs_j (by omega), e6, ft_hs_same]
  have g1 : h8 310 (o + 2 * n + 1) = m := by rw [e8, ft_hs_j (by omega), e7, ft_hs_same]
  have go : ∀ j, j ≠ 1 → j ≠ o + 2 * n → j ≠ o + 2 * n + 1 → h8 310 j = h 310 j := fun j j1 j2 j3 => by rw [e8, ft_hs_j j1, e7, ft_hs_j j3, e6, ft_hs_j j2]
  refine ⟨fun k hk => by rw [e8, ft_hs_ne k hk, e7, ft_hs_ne k hk, e6, ft_hs_ne k hk], by rw [e8, ft_hs_same]; rfl, fun j j1 j2 => go j j1 (by omega) (by omega), ?_⟩
  apply List.ext_getElem?
  intro j
  rcases Nat.lt_trichotomy j n with c | c | c
  · rw [List.getElem?_append_left (by rw [ft_gl_len]; exact c), ft_gl_get (by omega), ft_gl_get c, go (o + 2 * j) (by omega) (by omega) (by omega), go (o + 2 * j + 1) (by omega) (by omega) (by omega)]
  · rw [List.getElem?_append_right (by rw [ft_gl_len]; omega), ft_gl_len, c, Nat.sub_self, List.getElem?_cons_zero, ft_gl_get (by omega), g0, g1]
  · rw [ft_gl_none (by omega), List.getElem?_eq_none (by rw [List.length_append, ft_gl_len, List.length_singleton]; omega)]
theorem v_Mo_logs {o : Nat} (ho : o = 190) {h : ftH} (hw : ft_wf h) {n : Nat} (hn : h 310 1 = n) (h40 : n ≤ 40) (hg : gOk (ft_gl h 310 o n)) {x m : Int} (hx : ft_in x) (hm : 1 ≤ m ∧ m ≤ 9999) {R : Option ftV → ftH → Prop}
    (hk : ∀ (h' : ftH) (n' : Nat), (∀ k, k ≠ 310 → h' k = h k) → h' 310 1 = n' → n' ≤ 40 → (∀ j, j ≠ 1 → (j < o ∨ o + 80 ≤ j) → h' 310 j = h 310 j) → isSee (pUn x) m (ft_gl h 310 o n) (ft_gl h' 310 o n') → R none h') :
    ∀ k i : Nat, i + k = n → (∀ j, j < i → h 310 (o + 2 * j) ≠ x) → ft_V k_Mo_logs 2 [some (.inr (.inr 309)), some (.inl x), some (.inl m), some (.inl (i : Int))] [] h R := by
  intro k
  induction k with
  | zero =>
    intro i hi hb
    have hne : ∀ q ∈ ft_gl h 310 o n, q.1 ≠ pUn x := fun q hq he => by
      obtain ⟨j, hj⟩ := List.getElem?_of_mem hq
      have hlt := (List.getElem?_eq_some_iff.mp hj).1
      rw [ft_gl_len] at hlt
      rw [ft_gl_get hlt] at hj
      cases hj
      exact hb j (by omega) ((pUn_inj (hw 310 (o + 2 * j)) hx).mp he)
    refine b_Mo_logs_2 ⟨fun c => ⟨fun d => ?_, fun d => ⟨_, c_Mo_rarest ho hn (by omega) h40, fun z3 h4 _ hw4 => ?_⟩⟩, fun c => absurd (by omega) c⟩
    · have hap := v_Mo_app ho hn (by omega) (x := x) (m := m)
      refine ⟨(hap _ rfl).1, fun h1 e1 => ?_⟩
      obtain ⟨-, a2, a3⟩ := hap h1 e1
      refine ⟨a2, fun h2 e2 h3 e3 => ?_⟩
      obtain ⟨b1, b2, b3, b4⟩ := a3 h2 e2 h3 e3
      exact hk h3 (n + 1) b1 b2 (by omega) b3 (Or.inr ⟨hne, Or.inl ⟨by rw [ft_gl_len]; omega, b4⟩⟩)
    · obtain ⟨rfl, p, hz, hp, hrar⟩ := hw4
      cases hz
      refine ⟨_, c_Mo_dropsSeen ho hn h40 hp, fun h5 hw5 => ?_⟩
      obtain ⟨-, f1, f2, f3, f4⟩ := hw5
      have hap := v_Mo_app ho f2 (by omega) (x := x) (m := m)
      refine ⟨(hap _ rfl).1, fun h6 e6 => ?_⟩
      obtain ⟨-, a2, a3⟩ := hap h6 e6
      refine ⟨a2, fun h7 e7 h8 e8 => ?_⟩
      obtain ⟨b1, b2, b3, b4⟩ := a3 h7 e7 h8 e8
      exact hk h8 (n - 1 + 1) (fun k hk' => by rw [b1 k hk', f1 k hk']) b2 (by omega) (fun j j1 j2 => by rw [b3 j j1 j2, f3 j j1 j2]) (Or.inr ⟨hne, Or.inr ⟨by rw [ft_gl_len]; omega, p, hrar, by rw [b4, f4]⟩⟩)
  | succ k ih =>
    intro i hi hb
    have hgi := hg.2 _ (List.mem_of_getElem? (ft_gl_get (h := h) (c := 310) (o := o) (n := n) (i := i) (by omega)))
    have hti : 1 ≤ h 310 (o + 2 * i + 1) ∧ h 310 (o + 2 * i + 1) ≤ 999999 := hgi.2
    refine b_Mo_logs_2 ⟨fun c => absurd c (by omega), fun c => ⟨⟨by omega, by omega⟩, ?_⟩⟩
    rw [Int.toNat_natCast, show 190 + 2 * i = o + 2 * i by omega, show 191 + 2 * i = o + 2 * i + 1 by omega, show (190 : Int) = ((o : Nat) : Int) by omega, ix2 (by omega), ft_add_eq (x := ((o + 2 * i : Nat) : Int)) ⟨by omega, by omega⟩, ft_add_eq (x := h 310 (o + 2 * i + 1)) ⟨by omega, by omega⟩, show (((o + 2 * i : Nat) : Int) + 1).toNat = o + 2 * i + 1 by omega, ft_add_eq (x := (i : Int)) ⟨by omega, by omega⟩]
    have found : h 310 (o + 2 * i) = x → ∀ (t : Int) (h9 : ftH), t = min (h 310 (o + 2 * i + 1) + m) 999999 → h9 = ft_hs h 310 (o + 2 * i + 1) t → R none h9 := by
      intro hxe t h9 ht e9
      refine hk h9 n (fun k hk' => by rw [e9, ft_hs_ne k hk']) (by rw [e9, ft_hs_j (by omega), hn]) h40 (fun j j1 j2 => by rw [e9, ft_hs_j (by omega)]) (Or.inl ⟨i, _, ft_gl_get (by omega), by show pUn (h 310 (o + 2 * i)) = _; rw [hxe], fun j r hj hr he => ?_, ?_⟩)
      · rw [ft_gl_get (by omega)] at hr
        cases hr
        exact hb j hj ((pUn_inj (hw 310 (o + 2 * j)) hx).mp he)
      · apply List.ext_getElem?
        intro j
        by_cases ej : j = i
        · rw [ej, List.getElem?_set_self (by rw [ft_gl_len]; omega), ft_gl_get (by omega), e9, ft_hs_same, ft_hs_j (by omega), hxe, ht]
        · rw [List.getElem?_set_ne (fun z => ej z.symm)]
          by_cases cj : j < n
          · rw [ft_gl_get cj, ft_gl_get cj, e9, ft_hs_j (by omega), ft_hs_j (by omega)]
          · rw [ft_gl_none (by omega), ft_gl_none (by omega)]
    refine ⟨fun d => ⟨⟨by omega, by omega⟩, fun e => ⟨⟨by omega, by omega⟩, ⟨by omega, by omega⟩, fun h9 e9 => found d _ h9 (by omega) e9⟩, fun e => ⟨⟨by omega, by omega⟩, fun h10 e10 => found d _ h10 (by omega) e10⟩⟩, fun d => ih (i + 1) (by omega) (fun j hj => ?_)⟩
    by_cases ej : j = i
    · rw [ej]; exact d
    · exact hb j (by omega)
theorem c_Mo_logs {o : Nat} (ho : o = 190) {h : ftH} {n : Nat} (hn : h 310 1 = n) (h40 : n ≤ 40) (hg : gOk (ft_gl h 310 o n)) {x m : Int} (hx : ft_in x) (hm : 1 ≤ m ∧ m ≤ 9999) : ft_C k_Mo_logs [.inr (.inr 309), .inl x, .inl m] h (fun r h' => r = none ∧ ∃ n' : Nat, (∀ k, k ≠ 310 → h' k = h k) ∧ h' 310 1 = n' ∧ n' ≤ 40 ∧ (∀ j, j ≠ 1 → (j < o ∨ o + 80 ≤ j) → h' 310 j = h 310 j) ∧ isSee (pUn x) m (ft_gl h 310 o n) (ft_gl h' 310 o n')) :=
  ft_enter (n := 1) rfl (Nat.le_of_ble_eq_true rfl) rfl (fv_wf (fun hw => b_Mo_logs_0 (v_Mo_logs ho hw hn h40 hg hx hm (fun h' n' f1 f2 f3 f4 f5 => ⟨rfl, n', f1, f2, f3, f4, f5⟩) n 0 (by omega) (fun j hj => absurd hj (Nat.not_lt_zero j)))))
