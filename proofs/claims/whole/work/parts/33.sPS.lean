/-! prefix sets: removing, copying, what lies around -/
theorem ft_cp_in {h : ftH} {ks sp kd dp n j : Nat} (h1 : dp ≤ j) (h2 : j < dp + n) : ft_cp h ks sp kd dp n kd j = h ks (sp + (j - dp)) := if_pos ⟨rfl, h1, h2⟩
theorem ft_cp_out {h : ftH} {ks sp kd dp n j : Nat} (h1 : j < dp ∨ dp + n ≤ j) : ft_cp h ks sp kd dp n kd j = h kd j := if_neg (by omega)
theorem c_PS_removeAt {a : Nat} (ha : ft_sh a = some (.inl 4)) {h : ftH} (hs : ft_ps h a) {i : Nat} (hi : (i : Int) < h a 2) : ft_C k_PS_removeAt [.inr (.inr a), .inl (i : Int)] h (fun r h' => r = none ∧ (∀ k, k < a ∨ a + 3 ≤ k → h' k = h k) ∧ h' a 2 = h a 2 - 1 ∧ ft_pl h' a = (ft_pl h a).eraseIdx i) := by
  have hl := ft_ln_ps ha
  obtain ⟨hn, hK, hH, hO⟩ := id hs
  refine ft_enter (n := 0) rfl (Nat.le_of_ble_eq_true rfl) rfl (b_PS_removeAt_0 ha ⟨fun c => absurd c (by omega), fun c => ⟨fun d h1 e1 => ?_, fun d => absurd hi d⟩⟩)
  have s1 : ft_sub (h a 2) 1 = h a 2 - 1 := ft_sub_eq ⟨by omega, by omega⟩
  have s2 : ft_add (i : Int) 1 = (i : Int) + 1 := ft_add_eq ⟨by omega, by omega⟩
  have s3 : ft_sub (h a 2 - 1) (i : Int) = h a 2 - 1 - i := ft_sub_eq ⟨by omega, by omega⟩
  have e10 : h1 a 2 = h a 2 - 1 := by rw [e1, s1]; exact ft_hs_same
  rw [e10, s2, s3]
  refine ⟨⟨by omega, by omega, by omega, by omega, by omega⟩, fun h2 e2 => ?_⟩
  have e20 : h2 a 2 = h a 2 - 1 := by rw [e2]; unfold ft_cp; rw [if_neg (by omega), e10]
  rw [e20, s3]
  refine ⟨⟨by omega, by omega, by omega, by omega, by omega⟩, fun h3 e3 => ?_⟩
  rw [Int.toNat_natCast, show ((i : Int) + 1).toNat = i + 1 by omega] at e2 e3
  have e30 : h3 a 2 = h a 2 - 1 := by rw [e3]; unfold ft_cp; rw [if_neg (by omega), e20]
  refine ⟨rfl, fun k hk => ?_, e30, ?_⟩
  · rw [e3, ft_cp_ne k (by omega), e2, ft_cp_ne k (by omega), e1, ft_hs_ne k (by omega)]
  · apply List.ext_getElem?
    intro j
    rw [List.getElem?_eraseIdx]
    split
    · next c =>
      have g1 : h3 (a + 1) j = h (a + 1) j := by rw [e3, ft_cp_ne (a + 1) (by omega), e2, ft_cp_out (by omega), e1, ft_hs_ne (a + 1) (by omega)]
      have g2 : h3 (a + 2) j = h (a + 2) j := by rw [e3, ft_cp_out (by omega), e2, ft_cp_ne (a + 2) (by omega), e1, ft_hs_ne (a + 2) (by omega)]
      rw [ft_pl_get (by omega), ft_pl_get (by omega), g1, g2]
    · next c =>
      by_cases d : ((j : Int) < h a 2 - 1)
      · have q1 : i + 1 + (j - i) = j + 1 := by omega
        have g1 : h3 (a + 1) j = h (a + 1) (j + 1) := by rw [e3, ft_cp_ne (a + 1) (by omega), e2, ft_cp_in (by omega) (by omega), e1, ft_hs_ne (a + 1) (by omega), q1]
        have g2 : h3 (a + 2) j = h (a + 2) (j + 1) := by rw [e3, ft_cp_in (by omega) (by omega), e2, ft_cp_ne (a + 2) (by omega), e1, ft_hs_ne (a + 2) (by omega), q1]
        rw [ft_pl_get (by omega), ft_pl_get (by omega), g1, g2]
      · rw [ft_pl_none (by omega), ft_pl_none (by omega)]
theorem c_PS_removeAt_no {a : Nat} (ha : ft_sh a = some (.inl 4)) {h : ftH} {i : Int} (hi : i < 0) : ft_C k_PS_removeAt [.inr (.inr a), .inl i] h (fun r h' => r = none ∧ h' = h) :=
  ft_enter (n := 0) rfl (Nat.le_of_ble_eq_true rfl) rfl (b_PS_removeAt_0 ha ⟨fun c => ⟨rfl, rfl⟩, fun c => absurd hi c⟩)
/-- a prefix inside another one (or it itself) -/
def pIns (o k : Int) : Bool := decide (o % 64 ≤ k % 64) && (decide (o / 64 ≤ k / 64) && decide (k / 64 < o / 64 + pSz (o % 64)))
theorem pIns_iff {o k : Int} : pIns o k = true ↔ o % 64 ≤ k % 64 ∧ o / 64 ≤ k / 64 ∧ k / 64 < o / 64 + pSz (o % 64) := by simp [pIns]
theorem take_succ_get {α : Type} (l : List α) (i : Nat) (x : α) (h : l[i]? = some x) : l.take (i + 1) = l.take i ++ [x] := by
  rw [List.take_succ, h]
  rfl
theorem v_PS_removeInside {a : Nat} (ha : ft_sh a = some (.inl 4)) {h0 : ftH} (hs : ft_ps h0 a) {o : Int} (ho : pK o) {R : Option ftV → ftH → Prop}
    (hk : ∀ h' : ftH, (∀ k, k < a ∨ a + 3 ≤ k → h' k = h0 k) → (0 ≤ h' a 2 ∧ h' a 2 ≤ h0 a 2) → ft_pl h' a = (ft_pl h0 a).filter (fun q => !pIns o q.1) → R (some (.inl (h0 a 2 - h' a 2))) h') :
    ∀ (m i : Nat) (h : ftH) (lf : Nat), i + m = (h0 a 2).toNat → lf ≤ i → h a 2 = h0 a 2 → (∀ k, k < a ∨ a + 3 ≤ k → h k = h0 k) → (∀ j : Nat, i ≤ j → h (a + 1) j = h0 (a + 1) j ∧ h (a + 2) j = h0 (a + 2) j) → (List.range lf).map (fun j => (h (a + 1) j, h (a + 2) j)) = ((ft_pl h0 a).take i).filter (fun q => !pIns o q.1) →
      ft_V k_PS_removeInside 5 [some (.inr (.inr a)), some (.inr (.inl o)), none, some (.inl (lf : Int)), some (.inl (i : Int)), none] [] h R := by
  have hl := ft_ln_ps ha
  obtain ⟨hn, hK, hH, hO⟩ := id hs
  intro m
  induction m with
  | zero =>
    intro i h lf hi hlf h2 hf hrest hlist
    refine b_PS_removeInside_5 ha ⟨fun c n1 e1 h1 e2 => ?_, fun c => absurd (by omega) c⟩
    rw [e1, h2, ft_sub_eq ⟨by omega, by omega⟩]
    have e3 : h1 a 2 = lf := by rw [e2]; exact ft_hs_same
    have := hk h1 (fun k hk' => by rw [← hf k hk', e2]; exact ft_hs_ne k (by omega)) ⟨by omega, by omega⟩ (by
      rw [List.take_of_length_le (by rw [ft_pl_len]; omega)] at hlist
      rw [← hlist]
      unfold ft_pl
      rw [e3, Int.toNat_natCast]
      apply List.map_congr_left
      intro j _
      rw [e2, ft_hs_ne (a + 1) (by omega), ft_hs_ne (a + 2) (by omega)])
    rwa [e3] at this
  | succ m ih =>
    intro i h lf hi hlf h2 hf hrest hlist
    have hKi := hK i (by omega)
    have hget : (ft_pl h0 a)[i]? = some (h0 (a + 1) i, h0 (a + 2) i) := ft_pl_get (by omega)
    have a1 : ft_add (i : Int) 1 = ((i + 1 : Nat) : Int) := ft_add_eq ⟨by omega, by omega⟩
    have a2 : ft_add (lf : Int) 1 = ((lf + 1 : Nat) : Int) := ft_add_eq ⟨by omega, by omega⟩
    have hkeep : pIns o (h0 (a + 1) i) = false → ∀ h3 : ftH, (∀ k, k < a ∨ a + 3 ≤ k → h3 k = h k) → h3 a 2 = h a 2 → (∀ j : Nat, j ≠ lf → h3 (a + 1) j = h (a + 1) j ∧ h3 (a + 2) j = h (a + 2) j) → (h3 (a + 1) lf = h0 (a + 1) i ∧ h3 (a + 2) lf = h0 (a + 2) i) → ft_V k_PS_removeInside 5 [some (.inr (.inr a)), some (.inr (.inl o)), none, some (.inl (ft_add (lf : Int) 1)), some (.inl (ft_add (i : Int) 1)), none] [] h3 R := by
      intro hni h3 g1 g2 g3 g4
      rw [a1, a2]
      refine ih (i + 1) h3 (lf + 1) (by omega) (by omega) (by omega) (fun k hk' => (g1 k hk').trans (hf k hk')) (fun j hj => ?_) ?_
      · have := g3 j (by omega)
        have := hrest j (by omega)
        exact ⟨by rw [(g3 j (by omega)).1, this.1], by rw [(g3 j (by omega)).2, this.2]⟩
      · rw [take_succ_get _ i _ hget, List.filter_append, ← hlist, List.range_succ, List.map_append]
        congr 1
        · apply List.map_congr_left
          intro j hj
          have := List.mem_range.mp hj
          rw [(g3 j (by omega)).1, (g3 j (by omega)).2]
        · simp [hni, g4.1, g4.2]
    have hi1 : h (a + 1) i = h0 (a + 1) i := (hrest i (by omega)).1
    have hi2 : h (a + 2) i = h0 (a + 2) i := (hrest i (by omega)).2
    refine b_PS_removeInside_5 ha ⟨fun c => absurd c (by omega), fun c => ⟨⟨by omega, by omega⟩, ?_⟩⟩
    rw [Int.toNat_natCast, Int.toNat_natCast, hi1]
    have stores : ∀ h2' : ftH, h2' = ft_hs h (a + 1) lf (h0 (a + 1) i) → ∀ h3 : ftH, h3 = ft_hs h2' (a + 2) lf (h2' (a + 2) i) → (∀ k, k < a ∨ a + 3 ≤ k → h3 k = h k) ∧ h3 a 2 = h a 2 ∧ (∀ j : Nat, j ≠ lf → h3 (a + 1) j = h (a + 1) j ∧ h3 (a + 2) j = h (a + 2) j) ∧ (h3 (a + 1) lf = h0 (a + 1) i ∧ h3 (a + 2) lf = h0 (a + 2) i) := by
      intro h2' e2 h3 e3
      have q : h2' (a + 2) i = h0 (a + 2) i := by rw [e2, ft_hs_ne (a + 2) (by omega), hi2]
      rw [q] at e3
      refine ⟨fun k hk' => ?_, ?_, fun j hj => ⟨?_, ?_⟩, ?_, ?_⟩
      · rw [e3, ft_hs_ne k (by omega), e2, ft_hs_ne k (by omega)]
      · rw [e3, ft_hs_ne a (by omega), e2, ft_hs_ne a (by omega)]
      · rw [e3, ft_hs_ne (a + 1) (by omega), e2, ft_hs_j hj]
      · rw [e3, ft_hs_j hj, e2, ft_hs_ne (a + 2) (by omega)]
      · rw [e3, ft_hs_ne (a + 1) (by omega), e2, ft_hs_same]
      · rw [e3, ft_hs_same]
    refine ⟨hKi.1.1, ho.1.1, fun d => ⟨⟨by omega, by omega⟩, ⟨by omega, by omega⟩, fun h2' e2 => ⟨⟨by omega, by omega⟩, ⟨by omega, by omega⟩, fun h3 e3 => ?_⟩⟩, fun d => ⟨⟨by omega, by omega⟩, hKi.1.1, ⟨ho.1, ho.2.1⟩, fun e => ⟨⟨by omega, by omega⟩, ⟨by omega, by omega⟩, fun h2' e2 => ⟨⟨by omega, by omega⟩, ⟨by omega, by omega⟩, fun h3 e3 => ?_⟩⟩, fun e => ?_⟩⟩
    · obtain ⟨g1, g2, g3, g4⟩ := stores h2' e2 h3 e3
      refine hkeep ?_ h3 g1 g2 g3 g4
      cases hp : pIns o (h0 (a + 1) i) with
      | false => rfl
      | true => rw [pIns_iff] at hp; omega
    · obtain ⟨g1, g2, g3, g4⟩ := stores h2' e2 h3 e3
      refine hkeep ?_ h3 g1 g2 g3 g4
      cases hp : pIns o (h0 (a + 1) i) with
      | false => rfl
      | true => rw [pIns_iff] at hp; exact absurd hp.2 e
    · rw [a1]
      refine ih (i + 1) h lf (by omega) (by omega) h2 hf (fun j hj => hrest j (by omega)) ?_
      have hp : pIns o (h0 (a + 1) i) = true := by rw [pIns_iff]; exact ⟨by omega, e⟩
      rw [take_succ_get _ i _ hget, List.filter_append, hlist]
      simp [hp]
theorem c_PS_removeInside {a : Nat} (ha : ft_sh a = some (.inl 4)) {h : ftH} (hs : ft_ps h a) {o : Int} (ho : pK o) : ft_C k_PS_removeInside [.inr (.inr a), .inr (.inl o)] h (fun r h' => (∀ k, k < a ∨ a + 3 ≤ k → h' k = h k) ∧ (0 ≤ h' a 2 ∧ h' a 2 ≤ h a 2) ∧ ft_pl h' a = (ft_pl h a).filter (fun q => !pIns o q.1) ∧ r = some (.inl (h a 2 - h' a 2))) := by
  have hn := hs.1
  refine ft_enter (n := 3) rfl (Nat.le_of_ble_eq_true rfl) rfl (b_PS_removeInside_0 ha ?_)
  exact v_PS_removeInside ha hs ho (fun h' g1 g2 g3 => ⟨g1, g2, g3, rfl⟩) (h a 2).toNat 0 h 0 (by omega) (Nat.le_refl 0) rfl (fun _ _ => rfl) (fun _ _ => ⟨rfl, rfl⟩) (by simp)
/-- is a prefix properly around another one? -/
def pArd (k o : Int) : Bool := decide (k % 64 < o % 64) && (decide (k / 64 ≤ o / 64) && decide (o / 64 < k / 64 + pSz (k % 64)))
theorem pArd_iff {k o : Int} : pArd k o = true ↔ k % 64 < o % 64 ∧ k / 64 ≤ o / 64 ∧ o / 64 < k / 64 + pSz (k % 64) := by simp [pArd]
theorem v_PS_hasProperlyAround {a : Nat} (ha : ft_sh a = some (.inl 4)) {h : ftH} (hs : ft_ps h a) {o : Int} (ho : 0 ≤ o) {R : Option ftV → ftH → Prop} (hk : R (some (.inl (if (ft_pl h a).any (fun q => pArd q.1 o) = true then 1 else 0))) h) :
    ∀ m i : Nat, i + m = (h a 2).toNat → (∀ j : Nat, j < i → pArd (h (a + 1) j) o = false) → ft_V k_PS_hasProperlyAround 2 [some (.inr (.inr a)), some (.inr (.inl o)), none, some (.inl (i : Int))] [] h R := by
  have hl := ft_ln_ps ha
  obtain ⟨hn, hK, hH, hO⟩ := id hs
  intro m
  induction m with
  | zero =>
    intro i hi hb
    refine b_PS_hasProperlyAround_2 ha ⟨fun c => ?_, fun c => absurd (by omega) c⟩
    have : (ft_pl h a).any (fun q => pArd q.1 o) = false := by
      rw [List.any_eq_false]
      intro q hq
      obtain ⟨j, hj⟩ := List.getElem?_of_mem hq
      have hlt := (List.getElem?_eq_some_iff.mp hj).1
      rw [ft_pl_len] at hlt
      rw [ft_pl_get (by omega)] at hj
      cases hj
      rw [hb j (by omega)]
      decide
    rw [this] at hk
    exact hk
  | succ m ih =>
    intro i hi hb
    have hKi := hK i (by omega)
    have a1 : ft_add (i : Int) 1 = ((i + 1 : Nat) : Int) := ft_add_eq ⟨by omega, by omega⟩
    have next : pArd (h (a + 1) i) o = false → ft_V k_PS_hasProperlyAround 2 [some (.inr (.inr a)), some (.inr (.inl o)), none, some (.inl (ft_add (i : Int) 1))] [] h R := fun hf => by
      rw [a1]
      refine ih (i + 1) (by omega) (fun j hj => ?_)
      by_cases e : j = i
      · rw [e]; exact hf
      · exact hb j (by omega)
    refine b_PS_hasProperlyAround_2 ha ⟨fun c => absurd c (by omega), fun c => ⟨⟨by omega, by omega⟩, ?_⟩⟩
    rw [Int.toNat_natCast]
    refine ⟨hKi.1.1, ho, fun d => next ?_, fun d => ⟨⟨by omega, by omega⟩, ho, ⟨hKi.1, hKi.2.1⟩, fun e => next ?_, fun e => ?_⟩⟩
    · cases hp : pArd (h (a + 1) i) o with
      | false => rfl
      | true => rw [pArd_iff] at hp; omega
    · cases hp : pArd (h (a + 1) i) o with
      | false => rfl
      | true => rw [pArd_iff] at hp; exact absurd hp.2 e
    · have : (ft_pl h a).any (fun q => pArd q.1 o) = true := by
        rw [List.any_eq_true]
        exact ⟨_, List.mem_of_getElem? (ft_pl_get (i := i) (by omega)), by rw [pArd_iff]; exact ⟨by omega, e⟩⟩
      rw [this] at hk
      exact hk
theorem c_PS_hasProperlyAround {a : Nat} (ha : ft_sh a = some (.inl 4)) {h : ftH} (hs : ft_ps h a) {o : Int} (ho : 0 ≤ o) : ft_C k_PS_hasProperlyAround [.inr (.inr a), .inr (.inl o)] h (fun r h' => r = some (.inl (if (ft_pl h a).any (fun q => pArd q.1 o) = true then 1 else 0)) ∧ h' = h) :=
  ft_enter (n := 1) rfl (Nat.le_of_ble_eq_true rfl) rfl (b_PS_hasProperlyAround_0 ha (v_PS_hasProperlyAround ha hs ho ⟨rfl, rfl⟩ (h a 2).toNat 0 (by omega) (fun j hj => absurd hj (Nat.not_lt_zero j))))
theorem c_PS_copyFrom {a b : Nat} (ha : ft_sh a = some (.inl 4)) (hb : ft_sh b = some (.inl 4)) (hab : a + 3 ≤ b ∨ b + 3 ≤ a) {h : ftH} (hn : 0 ≤ h b 2 ∧ h b 2 ≤ ft_ln (b + 1)) (hle : h b 2 ≤ ft_ln (a + 1)) : ft_C k_PS_copyFrom [.inr (.inr a), .inr (.inr b)] h (fun r h' => r = none ∧ (∀ k, k < a ∨ a + 3 ≤ k → h' k = h k) ∧ h' a 2 = h b 2 ∧ ft_pl h' a = ft_pl h b) := by
  have hla := ft_ln_ps ha
  have hlb := ft_ln_ps hb
  refine ft_enter (n := 1) rfl (Nat.le_of_ble_eq_true rfl) rfl (b_PS_copyFrom_0 ha hb (fun n1 e1 => ?_))
  have e : n1 = h b 2 := by omega
  rw [e]
  refine ⟨⟨by omega, by omega, by omega, by omega, by omega⟩, fun h1 e1 => ⟨⟨by omega, by omega, by omega, by omega, by omega⟩, fun h2 e2 h3 e3 => ?_⟩⟩
  have z : (0 : Int).toNat = 0 := rfl
  rw [z] at e1 e2
  refine ⟨rfl, fun k hk => ?_, ?_, ?_⟩
  · rw [e3, ft_hs_ne k (by omega), e2, ft_cp_ne k (by omega), e1, ft_cp_ne k (by omega)]
  · rw [e3, ft_hs_same]
  · refine ft_pl_fr (by rw [e3, ft_hs_same]) (fun j hj => ?_)
    rw [e3, ft_hs_ne (a + 1) (by omega), ft_hs_ne (a + 2) (by omega), e2, e1]
    unfold ft_cp
    rw [if_neg (by omega), if_pos (by omega), if_pos (by omega), if_neg (by omega)]
    simp
