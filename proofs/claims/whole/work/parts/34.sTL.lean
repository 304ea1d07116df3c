/-! TRAFFIC LOGS: the list of (address, count) of a log has the same form as that of a set (ft_pl) -/
def ft_tw (h : ftH) (a : Nat) : Prop := (0 ≤ h a 2 ∧ h a 2 ≤ 40) ∧ ∀ j : Nat, (j : Int) < h a 2 → (0 ≤ h (a + 1) j ∧ h (a + 1) j < 4294967296) ∧ 1 ≤ h (a + 2) j ∧ h (a + 2) j ≤ 999999
/-- the list of a log -/
def gOk (l : List (Int × Int)) : Prop := l.length ≤ 40 ∧ ∀ q ∈ l, (0 ≤ q.1 ∧ q.1 < 4294967296) ∧ 1 ≤ q.2 ∧ q.2 ≤ 999999
theorem ft_tw_list {h : ftH} {a : Nat} (hs : ft_tw h a) : gOk (ft_pl h a) := by
  refine ⟨by rw [ft_pl_len]; have := hs.1; omega, fun q hq => ?_⟩
  obtain ⟨i, hi⟩ := List.getElem?_of_mem hq
  have hlt : (i : Int) < h a 2 := by
    have := (List.getElem?_eq_some_iff.mp hi).1
    rw [ft_pl_len] at this
    omega
  rw [ft_pl_get hlt] at hi
  cases hi
  exact hs.2 i hlt
theorem ft_tw_of {h : ftH} {a : Nat} (h0 : 0 ≤ h a 2) (hl : gOk (ft_pl h a)) : ft_tw h a := by
  refine ⟨⟨h0, by have := hl.1; rw [ft_pl_len] at this; omega⟩, fun j hj => hl.2 _ (List.mem_of_getElem? (ft_pl_get hj))⟩
/-- two lists by their places -/
theorem ft_pl_eq {h : ftH} {a : Nat} {l : List (Int × Int)} (h0 : 0 ≤ h a 2) (hlen : (l.length : Int) = h a 2) (hg : ∀ j : Nat, (j : Int) < h a 2 → l[j]? = some (h (a + 1) j, h (a + 2) j)) : ft_pl h a = l := by
  apply List.ext_getElem?
  intro i
  by_cases c : (i : Int) < h a 2
  · rw [ft_pl_get c, hg i c]
  · rw [ft_pl_none (by omega), List.getElem?_eq_none (by omega)]
theorem c_TL_copyFrom {a b : Nat} (ha : ft_sh a = some (.inl 9)) (hb : ft_sh b = some (.inl 9)) (hab : a + 3 ≤ b ∨ b + 3 ≤ a) {h : ftH} (hn : 0 ≤ h b 2 ∧ h b 2 ≤ 40) : ft_C k_TL_copyFrom [.inr (.inr a), .inr (.inr b)] h (fun r h' => r = none ∧ (∀ k, k < a ∨ a + 3 ≤ k → h' k = h k) ∧ h' a 2 = h b 2 ∧ ft_pl h' a = ft_pl h b) := by
  refine ft_enter (n := 0) rfl (Nat.le_of_ble_eq_true rfl) rfl (b_TL_copyFrom_0 ha hb ?_)
  refine ⟨⟨by omega, by omega, by omega, by omega, by omega⟩, fun h1 e1 => ?_⟩
  have z : (0 : Int).toNat = 0 := rfl
  rw [z] at e1
  have q1 : h1 b 2 = h b 2 := by rw [e1, ft_cp_ne b (by omega)]
  refine ⟨⟨by omega, by omega, by omega, by omega, by omega⟩, fun h2 e2 h3 e3 => ?_⟩
  rw [z, q1] at e2
  have q2 : h2 b 2 = h b 2 := by rw [e2, ft_cp_ne b (by omega), q1]
  rw [q2] at e3
  refine ⟨rfl, fun k hk => ?_, ?_, ?_⟩
  · rw [e3, ft_hs_ne k (by omega), e2, ft_cp_ne k (by omega), e1, ft_cp_ne k (by omega)]
  · rw [e3, ft_hs_same]
  · refine ft_pl_fr (by rw [e3, ft_hs_same]) (fun j hj => ?_)
    have g1 : h3 (a + 1) j = h (b + 1) j := by
      rw [e3, ft_hs_ne (a + 1) (by omega), e2, ft_cp_ne (a + 1) (by omega), e1, ft_cp_in (by omega) (by omega)]
      simp
    have g2 : h3 (a + 2) j = h (b + 2) j := by
      rw [e3, ft_hs_ne (a + 2) (by omega), e2, ft_cp_in (by omega) (by omega), e1, ft_cp_ne (b + 2) (by omega)]
      simp
    exact ⟨g1, g2⟩
theorem v_TL_indexOf {a : Nat} (ha : ft_sh a = some (.inl 9)) {h : ftH} (hn : 0 ≤ h a 2 ∧ h a 2 ≤ 40) {x : Int} {R : Option ftV → ftH → Prop} (hk : ∀ r : Int, (r = -1 ∧ ∀ j : Nat, (j : Int) < h a 2 → h (a + 1) j ≠ x) ∨ (∃ p : Nat, r = p ∧ (p : Int) < h a 2 ∧ h (a + 1) p = x ∧ ∀ j, j < p → h (a + 1) j ≠ x) → R (some (.inl r)) h) :
    ∀ m i : Nat, i + m = (h a 2).toNat → (∀ j, j < i → h (a + 1) j ≠ x) → ft_V k_TL_indexOf 2 [some (.inr (.inr a)), some (.inr (.inl x)), none, some (.inl (i : Int))] [] h R := by
  intro m
  induction m with
  | zero =>
    intro i hi hb
    exact b_TL_indexOf_2 ha ⟨fun c => hk _ (Or.inl ⟨rfl, fun j hj => hb j (by omega)⟩), fun c => absurd (by omega) c⟩
  | succ m ih =>
    intro i hi hb
    refine b_TL_indexOf_2 ha ⟨fun c => absurd c (by omega), fun c => ⟨⟨by omega, by omega⟩, fun d => ?_, fun d => hk _ (Or.inr ⟨i, rfl, by omega, d, hb⟩)⟩⟩
    rw [ft_add_eq ⟨by omega, by omega⟩]
    refine ih (i + 1) (by omega) (fun j hj => ?_)
    by_cases e : j = i
    · rw [e]; exact d
    · exact hb j (by omega)
theorem c_TL_indexOf {a : Nat} (ha : ft_sh a = some (.inl 9)) {h : ftH} (hn : 0 ≤ h a 2 ∧ h a 2 ≤ 40) {x : Int} : ft_C k_TL_indexOf [.inr (.inr a), .inr (.inl x)] h (fun q h' => h' = h ∧ ∃ r : Int, q = some (.inl r) ∧ ((r = -1 ∧ ∀ j : Nat, (j : Int) < h a 2 → h (a + 1) j ≠ x) ∨ (∃ p : Nat, r = p ∧ (p : Int) < h a 2 ∧ h (a + 1) p = x ∧ ∀ j, j < p → h (a + 1) j ≠ x))) :=
  ft_enter (n := 1) rfl (Nat.le_of_ble_eq_true rfl) rfl (b_TL_indexOf_0 ha (v_TL_indexOf ha hn (fun r hr => ⟨rfl, r, rfl, hr⟩) (h a 2).toNat 0 (by omega) (fun j hj => absurd hj (Nat.not_lt_zero j))))
theorem v_TL_rarest {a : Nat} (ha : ft_sh a = some (.inl 9)) {h : ftH} (hn : 1 ≤ h a 2 ∧ h a 2 ≤ 40) {R : Option ftV → ftH → Prop} (hk : ∀ p : Nat, (p : Int) < h a 2 → (∀ j : Nat, (j : Int) < h a 2 → h (a + 2) p ≤ h (a + 2) j) → (∀ j, j < p → h (a + 2) p < h (a + 2) j) → R (some (.inl (p : Int))) h) :
    ∀ m i b : Nat, i + m = (h a 2).toNat → b < i → (∀ j, j < i → h (a + 2) b ≤ h (a + 2) j) → (∀ j, j < b → h (a + 2) b < h (a + 2) j) → ft_V k_TL_rarest 4 [some (.inr (.inr a)), some (.inl (b : Int)), some (.inl (i : Int))] [] h R := by
  intro m
  induction m with
  | zero =>
    intro i b hi hbi h1 h2
    exact b_TL_rarest_4 ha ⟨fun c => hk b (by omega) (fun j hj => h1 j (by omega)) h2, fun c => absurd (by omega) c⟩
  | succ m ih =>
    intro i b hi hbi h1 h2
    refine b_TL_rarest_4 ha ⟨fun c => absurd c (by omega), fun c => ⟨⟨by omega, by omega⟩, ⟨by omega, by omega⟩, fun d => ?_, fun d => ?_⟩⟩
    · rw [ft_add_eq ⟨by omega, by omega⟩]
      refine ih (i + 1) b (by omega) (by omega) (fun j hj => ?_) h2
      by_cases e : j = i
      · rw [e]; exact d
      · exact h1 j (by omega)
    · rw [ft_add_eq ⟨by omega, by omega⟩]
      rw [Int.toNat_natCast, Int.toNat_natCast] at d
      refine ih (i + 1) i (by omega) (by omega) (fun j hj => ?_) (fun j hj => ?_)
      · by_cases e : j = i
        · rw [e]; omega
        · have := h1 j (by omega)
          omega
      · have := h1 j hj
        omega
theorem c_TL_rarest {a : Nat} (ha : ft_sh a = some (.inl 9)) {h : ftH} (hn : 1 ≤ h a 2 ∧ h a 2 ≤ 40) : ft_C k_TL_rarest [.inr (.inr a)] h (fun q h' => h' = h ∧ ∃ p : Nat, q = some (.inl (p : Int)) ∧ (p : Int) < h a 2 ∧ (∀ j : Nat, (j : Int) < h a 2 → h (a + 2) p ≤ h (a + 2) j) ∧ (∀ j, j < p → h (a + 2) p < h (a + 2) j)) :=
  ft_enter (n := 2) rfl (Nat.le_of_ble_eq_true rfl) rfl (b_TL_rarest_0 ha (v_TL_rarest ha hn (fun p h1 h2 h3 => ⟨rfl, p, rfl, h1, h2, h3⟩) ((h a 2).toNat - 1) 1 0 (by omega) (by omega) (fun j hj => by rw [show j = 0 by omega]; omega) (fun j hj => absurd hj (Nat.not_lt_zero j))))
theorem c_TL_removeAt {a : Nat} (ha : ft_sh a = some (.inl 9)) {h : ftH} (hn : 0 ≤ h a 2 ∧ h a 2 ≤ 40) {i : Nat} (hi : (i : Int) < h a 2) : ft_C k_TL_removeAt [.inr (.inr a), .inl (i : Int)] h (fun r h' => r = none ∧ (∀ k, k < a ∨ a + 3 ≤ k → h' k = h k) ∧ h' a 2 = h a 2 - 1 ∧ ft_pl h' a = (ft_pl h a).eraseIdx i) := by
  refine ft_enter (n := 0) rfl (Nat.le_of_ble_eq_true rfl) rfl (b_TL_removeAt_0 ha (fun h1 e1 => ?_))
  have s1 : ft_sub (h a 2) 1 = h a 2 - 1 := ft_sub_eq ⟨by omega, by omega⟩
  have s2 : ft_add (i : Int) 1 = (i : Int) + 1 := ft_add_eq ⟨by omega, by omega⟩
  have s3 : ft_sub (h a 2 - 1) (i : Int) = h a 2 - 1 - i := ft_sub_eq ⟨by omega, by omega⟩
  have e10 : h1 a 2 = h a 2 - 1 := by rw [e1, s1]; exact ft_hs_same
  rw [e10, s2, s3]
  refine ⟨⟨by omega, by omega, by omega, by omega, by omega⟩, fun h2 e2 => ?_⟩
  have e20 : h2 a 2 = h a 2 - 1 := by rw [e2, ft_cp_ne a (by omega), e10]
  rw [e20, s3]
  refine ⟨⟨by omega, by omega, by omega, by omega, by omega⟩, fun h3 e3 => ?_⟩
  rw [Int.toNat_natCast, show ((i : Int) + 1).toNat = i + 1 by omega] at e2 e3
  have e30 : h3 a 2 = h a 2 - 1 := by rw [e3, ft_cp_ne a (by omega), e20]
  refine ⟨rfl, fun k hk => ?_, e30, ?_⟩
  · rw [e3, ft_cp_ne k (by omega), e2, ft_cp_ne k (by omega), e1, ft_hs_ne k (by omega)]
  · apply List.ext_getElem?
    intro j
    rw [List.getElem?_eraseIdx]
    split
    · next c =>
      have g1 : h3 (a + 1) j = h (a + 1) j := by rw [e3, ft_cp_ne (a + 1) (by omega), e2, ft_cp_out (by omega), e1, ft_hs_ne (a + 1) (by omega)]
      have g2 : h3 (a + 2) j = h (a + 2) j := by rw [e3, ft_cp_out (by omega), e2, ft_cp_ne (a + 2) (by omega), e1, ft_hs_ne (a + 2) (by omega)]
      rw [ft_pl_get (by omega), ft_pl_get (by omega), g1, g2]
    · next c =>
      by_cases d : ((j : Int) < h a 2 - 1)
      · have q1 : i + 1 + (j - i) = j + 1 := by omega
        have g1 : h3 (a + 1) j = h (a + 1) (j + 1) := by rw [e3, ft_cp_ne (a + 1) (by omega), e2, ft_cp_in (by omega) (by omega), e1, ft_hs_ne (a + 1) (by omega), q1]
        have g2 : h3 (a + 2) j = h (a + 2) (j + 1) := by rw [e3, ft_cp_in (by omega) (by omega), e2, ft_cp_ne (a + 2) (by omega), e1, ft_hs_ne (a + 2) (by omega), q1]
        rw [ft_pl_get (by omega), ft_pl_get (by omega), g1, g2]
      · rw [ft_pl_none (by omega), ft_pl_none (by omega)]
/-! the log's changes as lists -/
/-- the first with the fewest: as a relation -/
def isRar (l : List (Int × Int)) (p : Nat) : Prop := ∃ q, l[p]? = some q ∧ (∀ r ∈ l, q.2 ≤ r.2) ∧ ∀ j r, j < p → l[j]? = some r → q.2 < r.2
theorem isRar_uniq {l : List (Int × Int)} {p p' : Nat} (h1 : isRar l p) (h2 : isRar l p') : p = p' := by
  obtain ⟨q, a1, a2, a3⟩ := h1
  obtain ⟨q', b1, b2, b3⟩ := h2
  rcases Nat.lt_trichotomy p p' with c | c | c
  · have := b3 p q c a1
    have := a2 q' (List.mem_of_getElem? b1)
    omega
  · exact c
  · have := a3 p' q' c b1
    have := b2 q (List.mem_of_getElem? a1)
    omega
/-- what a packet does to a log's list -/
def isSee (x n : Int) (l l' : List (Int × Int)) : Prop :=
  (∃ p q, l[p]? = some q ∧ q.1 = x ∧ (∀ j r, j < p → l[j]? = some r → r.1 ≠ x) ∧ l' = l.set p (x, min (q.2 + n) 999999)) ∨
  ((∀ r ∈ l, r.1 ≠ x) ∧ ((l.length < 40 ∧ l' = l ++ [(x, n)]) ∨ (40 ≤ l.length ∧ ∃ p, isRar l p ∧ l' = l.eraseIdx p ++ [(x, n)])))
theorem isSee_uniq {x n : Int} {l l1 l2 : List (Int × Int)} (h1 : isSee x n l l1) (h2 : isSee x n l l2) : l1 = l2 := by
  rcases h1 with ⟨p, q, a1, a2, a3, rfl⟩ | ⟨a1, a2⟩
  · rcases h2 with ⟨p', q', b1, b2, b3, rfl⟩ | ⟨b1, b2⟩
    · have : p = p' := by
        rcases Nat.lt_trichotomy p p' with c | c | c
        · exact absurd a2 (b3 p q c a1)
        · exact c
        · exact absurd b2 (a3 p' q' c b1)
      subst this
      rw [a1] at b1
      cases b1
      rfl
    · exact absurd a2 (b1 q (List.mem_of_getElem? a1))
  · rcases h2 with ⟨p', q', b1, b2, b3, rfl⟩ | ⟨b1, b2⟩
    · exact absurd b2 (a1 q' (List.mem_of_getElem? b1))
    · rcases a2 with ⟨c1, rfl⟩ | ⟨c1, p, c2, rfl⟩
      · rcases b2 with ⟨d1, rfl⟩ | ⟨d1, d2⟩
        · rfl
        · omega
      · rcases b2 with ⟨d1, d2⟩ | ⟨d1, p', d2, rfl⟩
        · omega
        · rw [isRar_uniq c2 d2]
theorem isSee_ok {x n : Int} {l l' : List (Int × Int)} (hl : gOk l) (hx : 0 ≤ x ∧ x < 4294967296) (hn : 1 ≤ n ∧ n ≤ 999999) (h : isSee x n l l') : gOk l' := by
  rcases h with ⟨p, q, a1, a2, a3, rfl⟩ | ⟨a1, ⟨c1, rfl⟩ | ⟨c1, p, c2, rfl⟩⟩
  · refine ⟨by rw [List.length_set]; exact hl.1, fun r hr => ?_⟩
    rcases List.mem_or_eq_of_mem_set hr with h | rfl
    · exact hl.2 r h
    · have := hl.2 q (List.mem_of_getElem? a1)
      exact ⟨hx, by show 1 ≤ min (q.2 + n) 999999; omega, by show min (q.2 + n) 999999 ≤ 999999; omega⟩
  · refine ⟨by rw [List.length_append, List.length_singleton]; omega, fun r hr => ?_⟩
    rcases List.mem_append.mp hr with h | h
    · exact hl.2 r h
    · rw [List.mem_singleton.mp h]
      exact ⟨hx, hn⟩
  · obtain ⟨q, d1, -⟩ := c2
    have hp := (List.getElem?_eq_some_iff.mp d1).1
    refine ⟨by rw [List.length_append, List.length_eraseIdx_of_lt hp, List.length_singleton]; have := hl.1; omega, fun r hr => ?_⟩
    rcases List.mem_append.mp hr with h | h
    · exact hl.2 r (List.mem_of_mem_eraseIdx h)
    · rw [List.mem_singleton.mp h]
      exact ⟨hx, hn⟩
theorem pl_ne {h : ftH} {a : Nat} {x : Int} (hn : ∀ j : Nat, (j : Int) < h a 2 → h (a + 1) j ≠ x) : ∀ r ∈ ft_pl h a, r.1 ≠ x := by
  intro r hr
  obtain ⟨j, hj⟩ := List.getElem?_of_mem hr
  have hlt := (List.getElem?_eq_some_iff.mp hj).1
  rw [ft_pl_len] at hlt
  rw [ft_pl_get (by omega)] at hj
  cases hj
  exact hn j (by omega)
theorem c_TL_see {a : Nat} (ha : ft_sh a = some (.inl 9)) {h : ftH} (hs : ft_tw h a) {x n : Int} (hx : 0 ≤ x ∧ x < 4294967296) (hnn : 1 ≤ n ∧ n ≤ 999999) : ft_C k_TL_see [.inr (.inr a), .inr (.inl x), .inl n] h (fun r h' => r = none ∧ (∀ k, k < a ∨ a + 3 ≤ k → h' k = h k) ∧ ft_tw h' a ∧ isSee x n (ft_pl h a) (ft_pl h' a)) := by
  obtain ⟨hn, hv⟩ := id hs
  refine ft_enter (n := 1) rfl (Nat.le_of_ble_eq_true rfl) rfl (b_TL_see_0 ha ⟨_, c_TL_indexOf ha hn, fun z h1 _ hw => ?_⟩)
  obtain ⟨rfl, r, hz, hr⟩ := hw
  cases hz
  -- appending at the end
  have app : ∀ (h6 : ftH), (∀ k, k < a ∨ a + 3 ≤ k → h6 k = h1 k) → 0 ≤ h6 a 2 → h6 a 2 < 40 → ∀ h7 : ftH, h7 = ft_hs h6 (a + 1) (h6 a 2).toNat x → h7 a 2 = h6 a 2 ∧ ∀ h8 : ftH, h8 = ft_hs h7 (a + 2) (h7 a 2).toNat n → ∀ h9 : ftH, h9 = ft_hs h8 a 2 (ft_add (h8 a 2) 1) → (∀ k, k < a ∨ a + 3 ≤ k → h9 k = h1 k) ∧ ft_pl h9 a = ft_pl h6 a ++ [(x, n)] ∧ 0 ≤ h9 a 2 := by
    intro h6 f1 f2 f3 h7 e7
    have q7 : h7 a 2 = h6 a 2 := by rw [e7, ft_hs_ne a (by omega)]
    refine ⟨q7, fun h8 e8 h9 e9 => ?_⟩
    rw [q7] at e8
    have q8 : h8 a 2 = h6 a 2 := by rw [e8, ft_hs_ne a (by omega), q7]
    rw [q8, ft_add_eq ⟨by omega, by omega⟩] at e9
    have q9 : h9 a 2 = h6 a 2 + 1 := by rw [e9, ft_hs_same]
    refine ⟨fun k hk => ?_, ?_, by omega⟩
    · rw [e9, ft_hs_ne k (by omega), e8, ft_hs_ne k (by omega), e7, ft_hs_ne k (by omega), f1 k hk]
    · refine ft_pl_eq (by omega) (by rw [List.length_append, ft_pl_len, List.length_singleton]; omega) (fun j hj => ?_)
      by_cases c : (j : Int) < h6 a 2
      · rw [List.getElem?_append_left (by rw [ft_pl_len]; omega), ft_pl_get c]
        have g1 : h9 (a + 1) j = h6 (a + 1) j := by rw [e9, ft_hs_ne (a + 1) (by omega), e8, ft_hs_ne (a + 1) (by omega), e7, ft_hs_j (by omega)]
        have g2 : h9 (a + 2) j = h6 (a + 2) j := by rw [e9, ft_hs_ne (a + 2) (by omega), e8, ft_hs_j (by omega), e7, ft_hs_ne (a + 2) (by omega)]
        rw [g1, g2]
      · have ej : j = (h6 a 2).toNat := by omega
        rw [List.getElem?_append_right (by rw [ft_pl_len]; omega), ft_pl_len, ej, Nat.sub_self, List.getElem?_cons_zero]
        have g1 : h9 (a + 1) (h6 a 2).toNat = x := by rw [e9, ft_hs_ne (a + 1) (by omega), e8, ft_hs_ne (a + 1) (by omega), e7, ft_hs_same]
        have g2 : h9 (a + 2) (h6 a 2).toNat = n := by rw [e9, ft_hs_ne (a + 2) (by omega), e8, ft_hs_same]
        rw [g1, g2]
  have fin : ∀ h9 : ftH, (∀ k, k < a ∨ a + 3 ≤ k → h9 k = h1 k) → 0 ≤ h9 a 2 → isSee x n (ft_pl h1 a) (ft_pl h9 a) → ((none : Option ftV) = none ∧ (∀ k, k < a ∨ a + 3 ≤ k → h9 k = h1 k) ∧ ft_tw h9 a ∧ isSee x n (ft_pl h1 a) (ft_pl h9 a)) := fun h9 f1 f2 f3 => ⟨rfl, f1, ft_tw_of f2 (isSee_ok (ft_tw_list hs) hx hnn f3), f3⟩
  rcases hr with ⟨rfl, hr⟩ | ⟨p, rfl, hp, hpx, hb⟩
  · refine ⟨fun _ => ⟨fun d => ⟨⟨by omega, by omega⟩, fun h7 e7 => ?_⟩, fun d => ⟨_, c_TL_rarest ha (by omega), fun z6 h5 _ hw => ?_⟩⟩, fun c => absurd (by decide) c⟩
    · obtain ⟨q7, g⟩ := app h1 (fun _ _ => rfl) hn.1 d h7 e7
      refine ⟨⟨by omega, by omega⟩, fun h8 e8 h9 e9 => ?_⟩
      obtain ⟨f1, f2, f3⟩ := g h8 e8 h9 e9
      exact fin h9 f1 f3 (Or.inr ⟨pl_ne hr, Or.inl ⟨by rw [ft_pl_len]; omega, f2⟩⟩)
    · obtain ⟨rfl, p, hz, hp, hm1, hm2⟩ := hw
      cases hz
      refine ⟨_, c_TL_removeAt ha hn hp, fun h6 hw => ?_⟩
      obtain ⟨-, f1, f2, f3⟩ := hw
      refine ⟨⟨by omega, by omega⟩, fun h7 e7 => ?_⟩
      obtain ⟨q7, g⟩ := app h6 f1 (by omega) (by omega) h7 e7
      refine ⟨⟨by omega, by omega⟩, fun h8 e8 h9 e9 => ?_⟩
      obtain ⟨g1, g2, g3⟩ := g h8 e8 h9 e9
      refine fin h9 g1 g3 (Or.inr ⟨pl_ne hr, Or.inr ⟨by rw [ft_pl_len]; omega, p, ⟨_, ft_pl_get hp, fun r hr => ?_, fun j r hj hq => ?_⟩, by rw [g2, f3]⟩⟩)
      · obtain ⟨j, hj⟩ := List.getElem?_of_mem hr
        have hlt := (List.getElem?_eq_some_iff.mp hj).1
        rw [ft_pl_len] at hlt
        rw [ft_pl_get (by omega)] at hj
        cases hj
        exact hm1 j (by omega)
      · rw [ft_pl_get (by omega)] at hq
        cases hq
        exact hm2 j hj
  · have hvp := (hv p hp).2
    refine ⟨fun c => absurd c (by omega), fun _ => ⟨⟨by omega, by omega⟩, ⟨by omega, by omega⟩, fun h10 e10 => ?_⟩⟩
    rw [Int.toNat_natCast, ft_add_eq ⟨by omega, by omega⟩] at e10
    have q10 : h10 a 2 = h1 a 2 := by rw [e10, ft_hs_ne a (by omega)]
    refine fin h10 (fun k hk => by rw [e10, ft_hs_ne k (by omega)]) (by omega) (Or.inl ⟨p, _, ft_pl_get hp, hpx, fun j r hj hq => ?_, ?_⟩)
    · rw [ft_pl_get (by omega)] at hq
      cases hq
      exact hb j hj
    · refine ft_pl_eq (by omega) (by rw [List.length_set, ft_pl_len]; omega) (fun j hj => ?_)
      by_cases c : j = p
      · rw [c, List.getElem?_set_self (by rw [ft_pl_len]; omega)]
        have g1 : h10 (a + 1) p = x := by rw [e10, ft_hs_ne (a + 1) (by omega), hpx]
        have g2 : h10 (a + 2) p = min (h1 (a + 2) p + n) 999999 := by rw [e10, ft_hs_same]
        rw [g1, g2]
      · rw [List.getElem?_set_ne (fun z => c z.symm), ft_pl_get (by omega)]
        have g1 : h10 (a + 1) j = h1 (a + 1) j := by rw [e10, ft_hs_ne (a + 1) (by omega)]
        have g2 : h10 (a + 2) j = h1 (a + 2) j := by rw [e10, ft_hs_j c]
        rw [g1, g2]
