/-! the longest match of a list in order; halving; missed traffic -/
def pInB (k x : Int) : Bool := decide (k / 64 ≤ x) && decide (x < k / 64 + pSz (k % 64))
theorem pInB_iff {k x : Int} : pInB k x = true ↔ pIn k x := by simp [pInB, pIn]
theorem pInB_no {k x : Int} (h : ¬ pIn k x) : pInB k x = false := by
  cases c : pInB k x with
  | false => rfl
  | true => exact absurd (pInB_iff.mp c) h
/-- the number of the last that contains the address, or -1 -/
def isLm (l : List (Int × Int)) (x r : Int) : Prop := (r = -1 ∧ ∀ q ∈ l, pInB q.1 x = false) ∨ ∃ (p : Nat) (q : Int × Int), r = p ∧ l[p]? = some q ∧ pInB q.1 x = true ∧ ∀ j s, p < j → l[j]? = some s → pInB s.1 x = false
theorem isLm_uniq {l : List (Int × Int)} {x r r' : Int} (h1 : isLm l x r) (h2 : isLm l x r') : r = r' := by
  rcases h1 with ⟨rfl, a1⟩ | ⟨p, q, rfl, a1, a2, a3⟩
  · rcases h2 with ⟨rfl, -⟩ | ⟨p', q', rfl, b1, b2, b3⟩
    · rfl
    · rw [a1 q' (List.mem_of_getElem? b1)] at b2
      cases b2
  · rcases h2 with ⟨rfl, b1⟩ | ⟨p', q', rfl, b1, b2, b3⟩
    · rw [b1 q (List.mem_of_getElem? a1)] at a2
      cases a2
    · rcases Nat.lt_trichotomy p p' with c | c | c
      · rw [a3 p' q' c b1] at b2
        cases b2
      · rw [c]
      · rw [b3 p q c a1] at a2
        cases a2
def lmatch (l : List (Int × Int)) (x : Int) : Option (Int × Int) := l.reverse.find? (fun q => pInB q.1 x)
theorem lmatch_of {l : List (Int × Int)} {x r : Int} (h : isLm l x r) : (r = -1 ∧ lmatch l x = none) ∨ ∃ (p : Nat) (q : Int × Int), r = p ∧ l[p]? = some q ∧ lmatch l x = some q := by
  rcases h with ⟨rfl, a1⟩ | ⟨p, q, rfl, a1, a2, a3⟩
  · refine Or.inl ⟨rfl, ?_⟩
    unfold lmatch
    rw [List.find?_eq_none]
    intro q hq
    rw [a1 q (List.mem_reverse.mp hq)]
    decide
  · refine Or.inr ⟨p, q, rfl, a1, ?_⟩
    have hlt := (List.getElem?_eq_some_iff.mp a1).1
    have e : l = l.take p ++ q :: l.drop (p + 1) := by
      have := (List.getElem?_eq_some_iff.mp a1).2
      rw [← this, List.getElem_cons_drop, List.take_append_drop]
    unfold lmatch
    rw [e, List.reverse_append, List.reverse_cons, List.append_assoc, List.find?_append]
    have hnone : List.find? (fun q => pInB q.1 x) (l.drop (p + 1)).reverse = none := by
      rw [List.find?_eq_none]
      intro s hs
      obtain ⟨j, hj⟩ := List.getElem?_of_mem (List.mem_reverse.mp hs)
      rw [List.getElem?_drop] at hj
      rw [a3 _ s (by omega) hj]
      decide
    rw [hnone]
    simp [a2]
/-- does a set answer with a hop? -/
def ansB (l : List (Int × Int)) (x : Int) : Bool := match lmatch l x with
  | some q => q.2 != 16
  | none => false
theorem d_PS_longest {a : Nat} (ha : ft_sh a = some (.inl 4)) {h : ftH} (hs : ft_ps h a) {x : Int} : ft_C k_PS_longest [.inr (.inr a), .inr (.inl x)] h (fun q h' => h' = h ∧ ∃ r : Int, q = some (.inl r) ∧ isLm (ft_pl h a) x r ∧ (r = -1 ∨ (0 ≤ r ∧ r < h a 2))) := by
  have hl := (ft_ln_ps ha).2.2
  have hn := hs.1
  refine ft_enter (n := 1) rfl (Nat.le_of_ble_eq_true rfl) rfl (b_PS_longest_0 ha (fun n1 e1 => ?_))
  rw [e1, ft_sub_eq ⟨by omega, by omega⟩]
  have := v_PS_longest ha hs (x := x) (R := fun q h' => h' = h ∧ ∃ r : Int, q = some (.inl r) ∧ isLm (ft_pl h a) x r ∧ (r = -1 ∨ (0 ≤ r ∧ r < h a 2))) (fun r hr => ⟨rfl, r, rfl, by
    rcases hr with ⟨rfl, hr⟩ | ⟨p, rfl, hp, hin, hj⟩
    · refine ⟨Or.inl ⟨rfl, fun q hq => ?_⟩, Or.inl rfl⟩
      obtain ⟨j, hj⟩ := List.getElem?_of_mem hq
      have hlt := (List.getElem?_eq_some_iff.mp hj).1
      rw [ft_pl_len] at hlt
      rw [ft_pl_get (by omega)] at hj
      cases hj
      exact pInB_no (hr j (by omega))
    · refine ⟨Or.inr ⟨p, _, rfl, ft_pl_get hp, pInB_iff.mpr hin, fun j s hjp hs' => ?_⟩, Or.inr ⟨by omega, hp⟩⟩
      have hlt := (List.getElem?_eq_some_iff.mp hs').1
      rw [ft_pl_len] at hlt
      rw [ft_pl_get (by omega)] at hs'
      cases hs'
      exact pInB_no (hj j hjp (by omega))⟩) (h a 2).toNat (by omega) (fun j q1 q2 => absurd q2 (by omega))
  rwa [Int.toNat_of_nonneg hn.1] at this
theorem d_PS_answersByHop {a : Nat} (ha : ft_sh a = some (.inl 4)) {h : ftH} (hs : ft_ps h a) {x : Int} : ft_C k_PS_answersByHop [.inr (.inr a), .inr (.inl x)] h (fun q h' => q = some (.inl (if ansB (ft_pl h a) x = true then 1 else 0)) ∧ h' = h) := by
  have hl := ft_ln_ps ha
  have hn := hs.1
  refine ft_enter (n := 1) rfl (Nat.le_of_ble_eq_true rfl) rfl (b_PS_answersByHop_0 ha ⟨_, d_PS_longest ha hs, fun z h1 _ hw => ?_⟩)
  obtain ⟨rfl, r, hz, hr, hb⟩ := hw
  cases hz
  rcases lmatch_of hr with ⟨rfl, hr2⟩ | ⟨p, q, rfl, hp, hr2⟩
  · refine ⟨fun c => ⟨?_, rfl⟩, fun c => absurd (by decide) c⟩
    rw [ansB, hr2]
    rfl
  · have hlt : (p : Int) < h1 a 2 := by omega
    rw [ft_pl_get hlt] at hp
    cases hp
    refine ⟨fun c => absurd c (by omega), fun c => ⟨⟨by omega, by omega⟩, fun d => ⟨?_, rfl⟩, fun d => ⟨?_, rfl⟩⟩⟩
    · rw [Int.toNat_natCast] at d
      rw [ansB, hr2]
      simp [d]
    · rw [Int.toNat_natCast] at d
      rw [ansB, hr2]
      simp [d]
/-- the counts of the addresses that a set doesn't answer -/
def missS (hw l : List (Int × Int)) : Int := (l.map fun q => if ansB hw q.1 = true then 0 else q.2).sum
theorem missS_snoc (hw l : List (Int × Int)) (q : Int × Int) : missS hw (l ++ [q]) = missS hw l + (if ansB hw q.1 = true then 0 else q.2) := by
  unfold missS
  rw [List.map_append, List.sum_append]
  simp
theorem missS_le {hw l : List (Int × Int)} (h : ∀ q ∈ l, 1 ≤ q.2 ∧ q.2 ≤ 999999) : 0 ≤ missS hw l ∧ missS hw l ≤ 999999 * (l.length : Int) := by
  unfold missS
  induction l with
  | nil => simp
  | cons q l ih =>
    have h1 := ih (fun r hr => h r (List.mem_cons_of_mem _ hr))
    have h2 := h q List.mem_cons_self
    rw [List.map_cons, List.sum_cons, List.length_cons]
    split <;> omega
theorem v_TL_missedBy {a b : Nat} (ha : ft_sh a = some (.inl 9)) (hb : ft_sh b = some (.inl 4)) {h : ftH} (ht : ft_tw h a) (hs : ft_ps h b) {R : Option ftV → ftH → Prop} (hk : R (some (.inl (missS (ft_pl h b) (ft_pl h a)))) h) :
    ∀ m i : Nat, i + m = (h a 2).toNat → ft_V k_TL_missedBy 4 [some (.inr (.inr a)), some (.inr (.inr b)), some (.inl (missS (ft_pl h b) ((ft_pl h a).take i))), some (.inl (i : Int))] [] h R := by
  obtain ⟨hn, hv⟩ := id ht
  intro m
  induction m with
  | zero =>
    intro i hi
    rw [List.take_of_length_le (by rw [ft_pl_len]; omega)]
    exact b_TL_missedBy_4 ha hb ⟨fun c => hk, fun c => absurd (by omega) c⟩
  | succ m ih =>
    intro i hi
    have hget : (ft_pl h a)[i]? = some (h (a + 1) i, h (a + 2) i) := ft_pl_get (by omega)
    have hvi := (hv i (by omega)).2
    have a1 : ft_add (i : Int) 1 = ((i + 1 : Nat) : Int) := ft_add_eq ⟨by omega, by omega⟩
    have hnext := ih (i + 1) (by omega)
    rw [take_succ_get _ i _ hget, missS_snoc] at hnext
    have hle := missS_le (hw := ft_pl h b) (l := (ft_pl h a).take i) (fun q hq => ((ft_tw_list ht).2 q (List.mem_of_mem_take hq)).2)
    have hlen : ((ft_pl h a).take i).length ≤ 40 := by rw [List.length_take, ft_pl_len]; omega
    refine b_TL_missedBy_4 ha hb ⟨fun c => absurd c (by omega), fun c => ⟨⟨by omega, by omega⟩, _, d_PS_answersByHop hb hs, fun z h1 _ hw => ?_⟩⟩
    obtain ⟨hz, rfl⟩ := hw
    cases hz
    rw [Int.toNat_natCast, a1]
    refine ⟨fun d => ?_, fun d => ⟨⟨by omega, by omega⟩, fun n4 e4 => ?_⟩⟩
    · rw [if_pos (ft_if1.mp d), Int.add_zero] at hnext
      exact hnext
    · rw [if_neg (ft_if0.mp d)] at hnext
      rw [e4, ft_add_eq ⟨by omega, by omega⟩]
      exact hnext
theorem c_TL_missedBy {a b : Nat} (ha : ft_sh a = some (.inl 9)) (hb : ft_sh b = some (.inl 4)) {h : ftH} (ht : ft_tw h a) (hs : ft_ps h b) : ft_C k_TL_missedBy [.inr (.inr a), .inr (.inr b)] h (fun r h' => r = some (.inl (missS (ft_pl h b) (ft_pl h a))) ∧ h' = h) := by
  refine ft_enter (n := 2) rfl (Nat.le_of_ble_eq_true rfl) rfl (b_TL_missedBy_0 ha hb ?_)
  have := v_TL_missedBy ha hb ht hs (R := fun r h' => r = some (.inl (missS (ft_pl h b) (ft_pl h a))) ∧ h' = h) ⟨rfl, rfl⟩ (h a 2).toNat 0 (by omega)
  exact this
/-- halved counts -/
def logHalf (l : List (Int × Int)) : List (Int × Int) := (l.filter (fun q => decide (1 < q.2))).map (fun q => (q.1, q.2 / 2))
theorem logHalf_ok {l : List (Int × Int)} (h : gOk l) : gOk (logHalf l) := by
  refine ⟨?_, fun q hq => ?_⟩
  · unfold logHalf
    rw [List.length_map]
    exact Nat.le_trans (List.length_filter_le _ _) h.1
  · unfold logHalf at hq
    obtain ⟨r, hr, rfl⟩ := List.mem_map.mp hq
    obtain ⟨hr1, hr2⟩ := List.mem_filter.mp hr
    have := h.2 r hr1
    have h2 : 1 < r.2 := of_decide_eq_true hr2
    exact ⟨this.1, by show 1 ≤ r.2 / 2; omega, by show r.2 / 2 ≤ 999999; omega⟩
theorem v_TL_halve {a : Nat} (ha : ft_sh a = some (.inl 9)) {h0 : ftH} (hs : ft_tw h0 a) {R : Option ftV → ftH → Prop}
    (hk : ∀ h' : ftH, (∀ k, k < a ∨ a + 3 ≤ k → h' k = h0 k) → (0 ≤ h' a 2 ∧ h' a 2 ≤ h0 a 2) → ft_pl h' a = logHalf (ft_pl h0 a) → R (some (.inl (h0 a 2 - h' a 2))) h') :
    ∀ (m i : Nat) (h : ftH) (lf : Nat), i + m = (h0 a 2).toNat → lf ≤ i → h a 2 = h0 a 2 → (∀ k, k < a ∨ a + 3 ≤ k → h k = h0 k) → (∀ j : Nat, i ≤ j → h (a + 1) j = h0 (a + 1) j ∧ h (a + 2) j = h0 (a + 2) j) → (List.range lf).map (fun j => (h (a + 1) j, h (a + 2) j)) = logHalf ((ft_pl h0 a).take i) →
      ft_V k_TL_halve 4 [some (.inr (.inr a)), some (.inl (lf : Int)), some (.inl (i : Int))] [] h R := by
  obtain ⟨hn, hv⟩ := id hs
  intro m
  induction m with
  | zero =>
    intro i h lf hi hlf h2 hf hrest hlist
    refine b_TL_halve_4 ha ⟨fun c n1 e1 h1 e2 => ?_, fun c => absurd (by omega) c⟩
    rw [e1, h2, ft_sub_eq ⟨by omega, by omega⟩]
    have e3 : h1 a 2 = lf := by rw [e2]; exact ft_hs_same
    have := hk h1 (fun k hk' => by rw [← hf k hk', e2]; exact ft_hs_ne k (by omega)) ⟨by omega, by omega⟩ (by
      rw [List.take_of_length_le (by rw [ft_pl_len]; omega)] at hlist
      rw [← hlist]
      unfold ft_pl
      rw [e3, Int.toNat_natCast]
      apply List.map_congr_left
      intro j _
      rw [e2, ft_hs_ne (a + 1) (by omega), ft_hs_ne (a + 2) (by omega)])
    rwa [e3] at this
  | succ m ih =>
    intro i h lf hi hlf h2 hf hrest hlist
    have hget : (ft_pl h0 a)[i]? = some (h0 (a + 1) i, h0 (a + 2) i) := ft_pl_get (by omega)
    have a1 : ft_add (i : Int) 1 = ((i + 1 : Nat) : Int) := ft_add_eq ⟨by omega, by omega⟩
    have a2 : ft_add (lf : Int) 1 = ((lf + 1 : Nat) : Int) := ft_add_eq ⟨by omega, by omega⟩
    have hi1 : h (a + 1) i = h0 (a + 1) i := (hrest i (by omega)).1
    have hi2 : h (a + 2) i = h0 (a + 2) i := (hrest i (by omega)).2
    have hvi := (hv i (by omega)).2
    refine b_TL_halve_4 ha ⟨fun c => absurd c (by omega), fun c => ⟨⟨by omega, by omega⟩, ?_⟩⟩
    rw [Int.toNat_natCast, Int.toNat_natCast, hi2, a1, a2, hi1]
    refine ⟨fun d => ?_, fun d => ⟨⟨by omega, by omega⟩, ⟨by omega, by omega⟩, fun h2' e2 => ?_⟩⟩
    · refine ih (i + 1) h lf (by omega) (by omega) h2 hf (fun j hj => hrest j (by omega)) ?_
      rw [take_succ_get _ i _ hget, hlist]
      unfold logHalf
      rw [List.filter_append, List.map_append]
      simp [show ¬ 1 < h0 (a + 2) i by omega]
    · have q : h2' (a + 2) i = h0 (a + 2) i := by rw [e2, ft_hs_ne (a + 2) (by omega), hi2]
      rw [q, ft_div_eq (by omega) (by omega) (by omega) (by omega)]
      refine ⟨⟨by omega, by omega⟩, ⟨by omega, by omega⟩, fun h3 e3 => ?_⟩
      refine ih (i + 1) h3 (lf + 1) (by omega) (by omega) ?_ (fun k hk' => ?_) (fun j hj => ⟨?_, ?_⟩) ?_
      · rw [e3, ft_hs_ne a (by omega), e2, ft_hs_ne a (by omega), h2]
      · rw [e3, ft_hs_ne k (by omega), e2, ft_hs_ne k (by omega), hf k hk']
      · rw [e3, ft_hs_ne (a + 1) (by omega), e2, ft_hs_j (by omega), (hrest j (by omega)).1]
      · rw [e3, ft_hs_j (by omega), e2, ft_hs_ne (a + 2) (by omega), (hrest j (by omega)).2]
      · rw [take_succ_get _ i _ hget]
        have hsp : logHalf ((ft_pl h0 a).take i ++ [(h0 (a + 1) i, h0 (a + 2) i)]) = logHalf ((ft_pl h0 a).take i) ++ [(h0 (a + 1) i, h0 (a + 2) i / 2)] := by
          unfold logHalf
          rw [List.filter_append, List.map_append]
          simp [show 1 < h0 (a + 2) i by omega]
        rw [hsp, ← hlist, List.range_succ, List.map_append]
        congr 1
        · apply List.map_congr_left
          intro j hj
          have := List.mem_range.mp hj
          rw [e3, ft_hs_ne (a + 1) (by omega), ft_hs_j (by omega), e2, ft_hs_j (by omega), ft_hs_ne (a + 2) (by omega)]
        · have g1 : h3 (a + 1) lf = h0 (a + 1) i := by rw [e3, ft_hs_ne (a + 1) (by omega), e2, ft_hs_same]
          have g2 : h3 (a + 2) lf = h0 (a + 2) i / 2 := by rw [e3, ft_hs_same]
          simp [g1, g2]
theorem c_TL_halve {a : Nat} (ha : ft_sh a = some (.inl 9)) {h : ftH} (hs : ft_tw h a) : ft_C k_TL_halve [.inr (.inr a)] h (fun r h' => (∀ k, k < a ∨ a + 3 ≤ k → h' k = h k) ∧ ft_tw h' a ∧ h' a 2 ≤ h a 2 ∧ ft_pl h' a = logHalf (ft_pl h a) ∧ r = some (.inl (h a 2 - h' a 2))) := by
  have hn := hs.1
  refine ft_enter (n := 2) rfl (Nat.le_of_ble_eq_true rfl) rfl (b_TL_halve_0 ha ?_)
  exact v_TL_halve ha hs (fun h' g1 g2 g3 => ⟨g1, ft_tw_of g2.1 (by rw [g3]; exact logHalf_ok (ft_tw_list hs)), g2.2, g3, rfl⟩) (h a 2).toNat 0 h 0 (by omega) (Nat.le_refl 0) rfl (fun _ _ => rfl) (fun _ _ => ⟨rfl, rfl⟩) (by simp [logHalf])
