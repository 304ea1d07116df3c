/-! STATES: capacity, routes, hardware, log, counts -/
abbrev ftS : Type := Int × List (Int × Int) × List (Int × Int) × List (Int × Int) × List Int
def ft_ct (h : ftH) (c : Nat) : List Int := [h c 0, h c 1, h c 2, h c 3, h c 4]
/-- what a state holds -/
def ft_sa (h : ftH) (a : Nat) : ftS := (h a 0, ft_pl h (a + 1), ft_pl h (a + 4), ft_pl h (a + 7), ft_ct h (a + 10))
/-- its sizes fit -/
def ft_sz (h : ftH) (a : Nat) : Prop := (0 ≤ h (a + 1) 2 ∧ h (a + 1) 2 ≤ 60) ∧ (0 ≤ h (a + 4) 2 ∧ h (a + 4) 2 ≤ 80) ∧ (0 ≤ h (a + 7) 2 ∧ h (a + 7) 2 ≤ 40)
theorem ft_ln_st_all : ∀ k, k < 333 → ft_sh k = some (.inl 6) → ft_ln (k + 2) = 60 ∧ ft_ln (k + 5) = 80 := by decide +kernel
theorem ft_ln_st {k : Nat} (h : ft_sh k = some (.inl 6)) : ft_ln (k + 2) = 60 ∧ ft_ln (k + 5) = 80 := ft_ln_st_all k (ft_sh_lt h) h
theorem ft_pl_same {h h' : ftH} {a : Nat} (h0 : h' a = h a) (h1 : h' (a + 1) = h (a + 1)) (h2 : h' (a + 2) = h (a + 2)) : ft_pl h' a = ft_pl h a := by unfold ft_pl; rw [h0, h1, h2]
theorem ft_ct_same {h h' : ftH} {c : Nat} (h0 : h' c = h c) : ft_ct h' c = ft_ct h c := by unfold ft_ct; rw [h0]
theorem ft_sa_same {h h' : ftH} {a : Nat} (hf : ∀ k, a ≤ k → k < a + 11 → h' k = h k) : ft_sa h' a = ft_sa h a := by
  unfold ft_sa
  rw [hf a (by omega) (by omega), ft_pl_same (a := a + 1) (hf _ (by omega) (by omega)) (hf _ (by omega) (by omega)) (hf _ (by omega) (by omega)), ft_pl_same (a := a + 4) (hf _ (by omega) (by omega)) (hf _ (by omega) (by omega)) (hf _ (by omega) (by omega)), ft_pl_same (a := a + 7) (hf _ (by omega) (by omega)) (hf _ (by omega) (by omega)) (hf _ (by omega) (by omega)), ft_ct_same (hf _ (by omega) (by omega))]
theorem ft_sz_same {h h' : ftH} {a : Nat} (hf : ∀ k, a ≤ k → k < a + 11 → h' k = h k) (hz : ft_sz h a) : ft_sz h' a := by
  unfold ft_sz at *
  rw [hf (a + 1) (by omega) (by omega), hf (a + 4) (by omega) (by omega), hf (a + 7) (by omega) (by omega)]
  exact hz
theorem c_St_copyFrom {a b : Nat} (ha : ft_sh a = some (.inl 6)) (hb : ft_sh b = some (.inl 6)) (hab : a + 11 ≤ b ∨ b + 11 ≤ a) {h : ftH} (hz : ft_sz h b) : ft_C k_St_copyFrom [.inr (.inr a), .inr (.inr b)] h (fun r h' => r = none ∧ (∀ k, k < a ∨ a + 11 ≤ k → h' k = h k) ∧ ft_sa h' a = ft_sa h b ∧ ft_sz h' a) := by
  have la := ft_ln_st ha
  have lb := ft_ln_st hb
  obtain ⟨z1, z2, z3⟩ := hz
  refine ft_enter (n := 0) rfl (Nat.le_of_ble_eq_true rfl) rfl (b_St_copyFrom_0 ha hb (fun h1 e1 => ?_))
  have f1 : ∀ k, k ≠ a → h1 k = h k := fun k hk => by rw [e1, ft_hs_ne k hk]
  refine ⟨_, c_PS_copyFrom (shc_6_1 ha) (shc_6_1 hb) (by omega) (by rw [f1 (b + 1) (by omega), show b + 1 + 1 = b + 2 by omega, lb.1]; omega) (by rw [f1 (b + 1) (by omega), show a + 1 + 1 = a + 2 by omega, la.1]; omega), fun h2 hw => ?_⟩
  obtain ⟨-, f2, g2, p2⟩ := hw
  refine ⟨_, c_PS_copyFrom (shc_6_2 ha) (shc_6_2 hb) (by omega) (by rw [f2 (b + 4) (by omega), f1 (b + 4) (by omega), show b + 4 + 1 = b + 5 by omega, lb.2]; omega) (by rw [f2 (b + 4) (by omega), f1 (b + 4) (by omega), show a + 4 + 1 = a + 5 by omega, la.2]; omega), fun h3 hw => ?_⟩
  obtain ⟨-, f3, g3, p3⟩ := hw
  refine ⟨_, c_TL_copyFrom (shc_6_3 ha) (shc_6_3 hb) (by omega) (by rw [f3 (b + 7) (by omega), f2 (b + 7) (by omega), f1 (b + 7) (by omega)]; omega), fun h4 hw => ?_⟩
  obtain ⟨-, f4, g4, p4⟩ := hw
  refine ⟨by decide, fun h5 e5 => ?_⟩
  have f5 : ∀ k, k ≠ a + 10 → h5 k = h4 k := fun k hk => by rw [e5, ft_cp_ne k hk]
  have hc : ∀ j, j < 5 → h5 (a + 10) j = h (b + 10) j := fun j hj => by
    rw [e5]
    have z0 : (0 : Int).toNat = 0 := rfl
    have z5 : (5 : Int).toNat = 5 := rfl
    rw [z0, z5, ft_cp_in (by omega) (by omega), f4 (b + 10) (by omega), f3 (b + 10) (by omega), f2 (b + 10) (by omega), f1 (b + 10) (by omega)]
    simp
  refine ⟨rfl, fun k hk => ?_, ?_, ?_⟩
  · rw [f5 k (by omega), f4 k (by omega), f3 k (by omega), f2 k (by omega), f1 k (by omega)]
  · unfold ft_sa
    have q0 : h5 a 0 = h b 0 := by rw [f5 a (by omega), f4 a (by omega), f3 a (by omega), f2 a (by omega), e1, ft_hs_same]
    have q1 : ft_pl h5 (a + 1) = ft_pl h (b + 1) := by
      rw [ft_pl_same (a := a + 1) (f5 _ (by omega)) (f5 _ (by omega)) (f5 _ (by omega)), ft_pl_same (a := a + 1) (f4 _ (by omega)) (f4 _ (by omega)) (f4 _ (by omega)), ft_pl_same (a := a + 1) (f3 _ (by omega)) (f3 _ (by omega)) (f3 _ (by omega)), p2]
      exact ft_pl_same (f1 _ (by omega)) (f1 _ (by omega)) (f1 _ (by omega))
    have q2 : ft_pl h5 (a + 4) = ft_pl h (b + 4) := by
      rw [ft_pl_same (a := a + 4) (f5 _ (by omega)) (f5 _ (by omega)) (f5 _ (by omega)), ft_pl_same (a := a + 4) (f4 _ (by omega)) (f4 _ (by omega)) (f4 _ (by omega)), p3, ft_pl_same (a := b + 4) (f2 _ (by omega)) (f2 _ (by omega)) (f2 _ (by omega))]
      exact ft_pl_same (f1 _ (by omega)) (f1 _ (by omega)) (f1 _ (by omega))
    have q3 : ft_pl h5 (a + 7) = ft_pl h (b + 7) := by
      rw [ft_pl_same (a := a + 7) (f5 _ (by omega)) (f5 _ (by omega)) (f5 _ (by omega)), p4, ft_pl_same (a := b + 7) (f3 _ (by omega)) (f3 _ (by omega)) (f3 _ (by omega)), ft_pl_same (a := b + 7) (f2 _ (by omega)) (f2 _ (by omega)) (f2 _ (by omega))]
      exact ft_pl_same (f1 _ (by omega)) (f1 _ (by omega)) (f1 _ (by omega))
    have q4 : ft_ct h5 (a + 10) = ft_ct h (b + 10) := by
      unfold ft_ct
      rw [hc 0 (by omega), hc 1 (by omega), hc 2 (by omega), hc 3 (by omega), hc 4 (by omega)]
    rw [q0, q1, q2, q3, q4]
  · refine ⟨?_, ?_, ?_⟩
    · rw [f5 (a + 1) (by omega), f4 (a + 1) (by omega), f3 (a + 1) (by omega), g2, f1 (b + 1) (by omega)]
      exact z1
    · rw [f5 (a + 4) (by omega), f4 (a + 4) (by omega), g3, f2 (b + 4) (by omega), f1 (b + 4) (by omega)]
      exact z2
    · rw [f5 (a + 7) (by omega), g4, f3 (b + 7) (by omega), f2 (b + 7) (by omega), f1 (b + 7) (by omega)]
      exact z3
theorem ft_pl_nil {h : ftH} {a : Nat} (h0 : h a 2 = 0) : ft_pl h a = [] := by
  unfold ft_pl
  rw [h0]
  rfl
theorem v_St_reset {a : Nat} (ha : ft_sh a = some (.inl 6)) {h0 : ftH} {R : Option ftV → ftH → Prop} (hk : ∀ h' : ftH, (∀ k, k ≠ a + 10 → h' k = h0 k) → (∀ j, j < 5 → h' (a + 10) j = 0) → R none h') :
    ∀ (m i : Nat) (h : ftH), i + m = 5 → (∀ k, k ≠ a + 10 → h k = h0 k) → (∀ j, j < i → h (a + 10) j = 0) → ft_V k_St_reset 32 [some (.inr (.inr a)), some (.inl (i : Int))] [] h R := by
  intro m
  induction m with
  | zero =>
    intro i h hi hf hz
    exact b_St_reset_32 ha ⟨fun c => hk h hf (fun j hj => hz j (by omega)), fun c => absurd (by omega) c⟩
  | succ m ih =>
    intro i h hi hf hz
    refine b_St_reset_32 ha ⟨fun c => absurd c (by omega), fun c => ⟨⟨by omega, by omega⟩, fun h1 e1 => ?_⟩⟩
    rw [ft_add_eq ⟨by omega, by omega⟩]
    rw [Int.toNat_natCast] at e1
    refine ih (i + 1) h1 (by omega) (fun k hk' => by rw [e1, ft_hs_ne k hk', hf k hk']) (fun j hj => ?_)
    by_cases e : j = i
    · rw [e, e1, ft_hs_same]
    · rw [e1, ft_hs_j e, hz j (by omega)]
theorem c_St_reset {a : Nat} (ha : ft_sh a = some (.inl 6)) {h : ftH} : ft_C k_St_reset [.inr (.inr a)] h (fun r h' => r = none ∧ (∀ k, k < a ∨ a + 11 ≤ k → h' k = h k) ∧ ft_sa h' a = (8, [], [], [], [0, 0, 0, 0, 0]) ∧ ft_sz h' a) := by
  refine ft_enter (n := 1) rfl (Nat.le_of_ble_eq_true rfl) rfl (b_St_reset_0 ha (fun h1 e1 h2 e2 h3 e3 h4 e4 => ?_))
  refine v_St_reset ha (h0 := h4) (fun h' f z => ?_) 5 0 h4 rfl (fun _ _ => rfl) (fun j hj => absurd hj (Nat.not_lt_zero j))
  have q0 : h' a 0 = 8 := by rw [f a (by omega), e4, ft_hs_ne a (by omega), e3, ft_hs_ne a (by omega), e2, ft_hs_ne a (by omega), e1, ft_hs_same]
  have q1 : h' (a + 1) 2 = 0 := by rw [f (a + 1) (by omega), e4, ft_hs_ne (a + 1) (by omega), e3, ft_hs_ne (a + 1) (by omega), e2, ft_hs_same]
  have q2 : h' (a + 4) 2 = 0 := by rw [f (a + 4) (by omega), e4, ft_hs_ne (a + 4) (by omega), e3, ft_hs_same]
  have q3 : h' (a + 7) 2 = 0 := by rw [f (a + 7) (by omega), e4, ft_hs_same]
  refine ⟨rfl, fun k hk => ?_, ?_, ⟨by omega, by omega, by omega⟩⟩
  · rw [f k (by omega), e4, ft_hs_ne k (by omega), e3, ft_hs_ne k (by omega), e2, ft_hs_ne k (by omega), e1, ft_hs_ne k (by omega)]
  · unfold ft_sa ft_ct
    rw [q0, ft_pl_nil q1, ft_pl_nil q2, ft_pl_nil q3, z 0 (by omega), z 1 (by omega), z 2 (by omega), z 3 (by omega), z 4 (by omega)]
/-- the counts are far from the long's edge -/
def ctB (c : List Int) : Prop := ∀ x ∈ c, 0 ≤ x ∧ x ≤ 1000000000
/-- the hardware emptied: the counts then -/
def ctEmpty (n : Int) (c : List Int) : List Int := match c with
  | [c0, c1, c2, c3, c4] => if 0 < n then [c0, c1, c2 + n, c3, c4 + 1] else c
  | _ => c
theorem c_St_emptyHardware {a : Nat} (ha : ft_sh a = some (.inl 6)) {h : ftH} (hz : 0 ≤ h (a + 4) 2 ∧ h (a + 4) 2 ≤ 80) (b2 : 0 ≤ h (a + 10) 2 ∧ h (a + 10) 2 ≤ 4000000000) (b4 : 0 ≤ h (a + 10) 4 ∧ h (a + 10) 4 ≤ 4000000000) : ft_C k_St_emptyHardware [.inr (.inr a)] h (fun r h' => r = none ∧ (∀ k, k ≠ a + 4 → k ≠ a + 10 → h' k = h k) ∧ h' (a + 4) 2 = 0 ∧ ft_ct h' (a + 10) = ctEmpty (h (a + 4) 2) (ft_ct h (a + 10))) := by
  refine ft_enter (n := 0) rfl (Nat.le_of_ble_eq_true rfl) rfl (b_St_emptyHardware_0 ha ⟨fun c => ?_, fun c h1 e1 h2 e2 h3 e3 => ?_⟩)
  · refine ⟨rfl, fun _ _ _ => rfl, by omega, ?_⟩
    unfold ctEmpty ft_ct
    simp only
    rw [if_neg (by omega)]
  · rw [ft_addL_eq ⟨by omega, by omega⟩] at e1
    have q4 : h1 (a + 10) 4 = h (a + 10) 4 := by rw [e1, ft_hs_j (by omega)]
    rw [q4, ft_addL_eq ⟨by omega, by omega⟩] at e2
    refine ⟨rfl, fun k k1 k2 => ?_, by rw [e3, ft_hs_same], ?_⟩
    · rw [e3, ft_hs_ne k k1, e2, ft_hs_ne k k2, e1, ft_hs_ne k k2]
    · have e4 : h3 (a + 10) = h2 (a + 10) := by rw [e3, ft_hs_ne (a + 10) (by omega)]
      unfold ctEmpty ft_ct
      simp only
      rw [if_pos (by omega), e4, e2, e1]
      simp [ft_hs]
/-- what a change of the route with this key does to the hardware's list (room for so many), to the counts, and by how much the churn grows -/
def hwChange (key room : Int) (l : List (Int × Int)) (c : List Int) : List (Int × Int) × List Int × Int :=
  let l1 := l.filter (fun q => !pIns key q.1)
  let d : Int := (l.length : Int) - l1.length
  match c with
  | [c0, c1, c2, c3, c4] =>
    if l1.any (fun q => pArd q.1 key) = true then
      if (l1.length : Int) < room then (insK key 16 l1, [c0, c1, c2 + d + 1, c3 + 1, c4], d + 1)
      else ([], ctEmpty l1.length [c0, c1, c2 + d, c3 + 1, c4], d + l1.length)
    else (l1, [c0, c1, c2 + d, c3 + 1, c4], d)
  | _ => (l, c, 0)
theorem lOk_filter {l : List (Int × Int)} {p : Int × Int → Bool} (h : lOk l) : lOk (l.filter p) := ⟨fun q hq => h.1 q (List.mem_filter.mp hq).1, h.2.sublist List.filter_sublist⟩
theorem insK_len {k v : Int} {l : List (Int × Int)} (h : ∀ q ∈ l, q.1 ≠ k) : (insK k v l).length = l.length + 1 := by
  induction l with
  | nil => rfl
  | cons q l ih =>
    simp only [insK]
    have h1 := h q List.mem_cons_self
    split
    · rw [List.length_cons, ih (fun r hr => h r (List.mem_cons_of_mem _ hr)), List.length_cons]
    · first | (rw [if_neg h1]; rfl) | rfl
theorem c_St_routeChanged {a : Nat} (ha : ft_sh a = some (.inl 6)) {h : ftH} (hs : ft_ps h (a + 4)) (hcap : 1 ≤ h a 0 ∧ h a 0 ≤ 40) (hroom : h (a + 4) 2 ≤ 2 * h a 0) (hc : ctB (ft_ct h (a + 10))) {key : Int} (hk : pK key) : ft_C k_St_routeChanged [.inr (.inr a), .inr (.inl key)] h (fun r h' => (∀ k, k < a + 4 ∨ (a + 7 ≤ k ∧ k ≠ a + 10) → h' k = h k) ∧ (0 ≤ h' (a + 4) 2 ∧ h' (a + 4) 2 ≤ 2 * h a 0) ∧ ft_pl h' (a + 4) = (hwChange key (2 * h a 0) (ft_pl h (a + 4)) (ft_ct h (a + 10))).1 ∧ ft_ct h' (a + 10) = (hwChange key (2 * h a 0) (ft_pl h (a + 4)) (ft_ct h (a + 10))).2.1 ∧ r = some (.inl (hwChange key (2 * h a 0) (ft_pl h (a + 4)) (ft_ct h (a + 10))).2.2)) := by
  have la := ft_ln_st ha
  have b2 := hc (h (a + 10) 2) (by simp [ft_ct])
  have b3 := hc (h (a + 10) 3) (by simp [ft_ct])
  have hn := hs.1
  rw [show a + 4 + 1 = a + 5 by omega, la.2] at hn
  have hlen : ((ft_pl h (a + 4)).length : Int) = h (a + 4) 2 := by rw [ft_pl_len]; omega
  refine ft_enter (n := 2) rfl (Nat.le_of_ble_eq_true rfl) rfl (b_St_routeChanged_0 ha (fun n1 en h1 e1 => ?_))
  rw [ft_addL_eq ⟨by omega, by omega⟩] at e1
  have f1 : ∀ k, k ≠ a + 10 → h1 k = h k := fun k hk' => by rw [e1, ft_hs_ne k hk']
  have p1 : ft_pl h1 (a + 4) = ft_pl h (a + 4) := ft_pl_same (f1 _ (by omega)) (f1 _ (by omega)) (f1 _ (by omega))
  have hs1 : ft_ps h1 (a + 4) := ft_ps_of (by rw [f1 (a + 4) (by omega)]; exact hs.1) (by rw [p1]; exact ft_ps_list hs)
  refine ⟨_, c_PS_removeInside (shc_6_2 ha) hs1 hk, fun z4 h2 _ hw => ?_⟩
  obtain ⟨f2, g2, p2, r2⟩ := hw
  cases r2
  rw [p1] at p2
  have q12 : h1 (a + 10) 2 = h (a + 10) 2 := by rw [e1, ft_hs_j (by omega)]
  rw [f1 (a + 4) (by omega)] at g2 ⊢
  have hlen2 : ((ft_pl h2 (a + 4)).length : Int) = h2 (a + 4) 2 := by rw [ft_pl_len]; omega
  rw [p2] at hlen2
  intro h3 e3
  rw [q12, ft_addL_eq ⟨by omega, by omega⟩] at e3
  have f3 : ∀ k, k ≠ a + 10 → h3 k = h2 k := fun k hk' => by rw [e3, ft_hs_ne k hk']
  have p3 : ft_pl h3 (a + 4) = (ft_pl h (a + 4)).filter (fun q => !pIns key q.1) := by rw [← p2]; exact ft_pl_same (f3 _ (by omega)) (f3 _ (by omega)) (f3 _ (by omega))
  have l3 := lOk_filter (p := fun q => !pIns key q.1) (ft_ps_list hs)
  have hs3 : ft_ps h3 (a + 4) := ft_ps_of (by rw [f3 (a + 4) (by omega), show a + 4 + 1 = a + 5 by omega, la.2]; omega) (by rw [p3]; exact l3)
  -- the counts so far
  have f210 : h2 (a + 10) = h1 (a + 10) := f2 (a + 10) (by omega)
  have c3 : ft_ct h3 (a + 10) = [h (a + 10) 0, h (a + 10) 1, h (a + 10) 2 + (h (a + 4) 2 - h2 (a + 4) 2), h (a + 10) 3 + 1, h (a + 10) 4] := by
    unfold ft_ct
    have g : ∀ j, j ≠ 2 → h3 (a + 10) j = h1 (a + 10) j := fun j hj => by rw [e3, ft_hs_j hj, f210]
    rw [g 0 (by omega), g 1 (by omega), g 3 (by omega), g 4 (by omega), e3, ft_hs_same, e1, ft_hs_j (by omega), ft_hs_j (by omega), ft_hs_same, ft_hs_j (by omega)]
  have q32 : h3 (a + 10) 2 = h (a + 10) 2 + (h (a + 4) 2 - h2 (a + 4) 2) := by rw [e3, ft_hs_same]
  have fr3 : ∀ k, k < a + 4 ∨ (a + 7 ≤ k ∧ k ≠ a + 10) → h3 k = h k := fun k hk' => by rw [f3 k (by omega), f2 k (by omega), f1 k (by omega)]
  refine ⟨_, c_PS_hasProperlyAround (shc_6_2 ha) hs3 hk.1.1, fun z7 h4 _ hw => ?_⟩
  obtain ⟨hz7, rfl⟩ := hw
  cases hz7
  rw [p3]
  unfold hwChange
  have ect : ft_ct h (a + 10) = [h (a + 10) 0, h (a + 10) 1, h (a + 10) 2, h (a + 10) 3, h (a + 10) 4] := rfl
  simp only [ect, hlen]
  generalize hL : (ft_pl h (a + 4)).filter (fun q => !pIns key q.1) = l1 at p3 l3 hlen2 ⊢
  have q42 : h4 (a + 4) 2 = h2 (a + 4) 2 := by rw [f3 (a + 4) (by omega)]
  have q40 : h4 a 0 = h a 0 := by rw [fr3 a (by omega)]
  have b4 := hc (h (a + 10) 4) (by simp [ft_ct])
  have q44 : h4 (a + 10) 4 = h (a + 10) 4 := by
    have := congrArg (fun l => l.getD 4 0) c3
    simpa [ft_ct] using this
  refine ⟨fun c => ?_, fun c => ⟨by rw [q40]; omega, fun d => ?_, fun d => ?_⟩⟩
  · rw [if_neg (ft_if0.mp c)]
    refine ⟨fr3, by rw [q42]; omega, rfl, by rw [c3, hlen2], ?_⟩
    rw [en, q32, ft_subL_eq ⟨by omega, by omega⟩, ft_l2i_eq ⟨by omega, by omega⟩]
    refine congrArg some (congrArg Sum.inl ?_)
    show h (a + 10) 2 + (h (a + 4) 2 - h2 (a + 4) 2) - h (a + 10) 2 = h (a + 4) 2 - (l1.length : Int)
    omega
  · rw [if_pos (ft_if1.mp c), if_neg (by rw [hlen2]; omega)]
    refine ⟨_, c_St_emptyHardware ha (by rw [q42]; omega) (by omega) (by omega), fun h5 hw => ?_⟩
    obtain ⟨-, f5, g5, k5⟩ := hw
    have hpos : 0 < h2 (a + 4) 2 := by omega
    rw [c3, q42] at k5
    have q52 : h5 (a + 10) 2 = h (a + 10) 2 + (h (a + 4) 2 - h2 (a + 4) 2) + h2 (a + 4) 2 := by
      have := congrArg (fun l => l.getD 2 0) k5
      simpa [ft_ct, ctEmpty, hpos] using this
    refine ⟨fun k hk' => by rw [f5 k (by omega) (by omega), fr3 k hk'], by omega, ft_pl_nil g5, by rw [k5, hlen2], ?_⟩
    rw [en, q52, ft_subL_eq ⟨by omega, by omega⟩, ft_l2i_eq ⟨by omega, by omega⟩]
    refine congrArg some (congrArg Sum.inl ?_)
    show h (a + 10) 2 + (h (a + 4) 2 - h2 (a + 4) 2) + h2 (a + 4) 2 - h (a + 10) 2 = h (a + 4) 2 - (l1.length : Int) + (l1.length : Int)
    omega
  · rw [if_pos (ft_if1.mp c), if_pos (by rw [hlen2]; omega)]
    refine ⟨_, c_PS_put (shc_6_2 ha) hs3, fun h6 hw => ?_⟩
    obtain ⟨-, f6, g6, p6, s6⟩ := hw
    rw [show a + 4 + 1 = a + 5 by omega, la.2] at g6 p6 s6
    have hne : ∀ j : Nat, (j : Int) < h4 (a + 4) 2 → h4 (a + 5) j ≠ key := fun j hj he => by
      have hm : (h4 (a + 5) j, h4 (a + 6) j) ∈ ft_pl h4 (a + 4) := List.mem_of_getElem? (ft_pl_get (a := a + 4) hj)
      rw [p3, ← hL] at hm
      have h9 := (List.mem_filter.mp hm).2
      have h8 : pIns key (h4 (a + 5) j) = true := by
        rw [he, pIns_iff]
        have := pSz_pos (key % 64)
        omega
      rw [h8] at h9
      cases h9
    have p6' := p6 (Or.inl (by omega))
    have s6' := s6 hne (by omega)
    rw [p3] at p6'
    have q62 : h6 (a + 10) = h4 (a + 10) := f6 (a + 10) (by omega)
    rw [q62]
    intro h7 e7
    rw [ft_addL_eq ⟨by omega, by omega⟩, q32] at e7
    have f7 : ∀ k, k ≠ a + 10 → h7 k = h6 k := fun k hk' => by rw [e7, ft_hs_ne k hk']
    refine ⟨fun k hk' => by rw [f7 k (by omega), f6 k (by omega), fr3 k hk'], by rw [f7 (a + 4) (by omega)]; omega, ?_, ?_, ?_⟩
    · rw [← p6']
      exact ft_pl_same (f7 _ (by omega)) (f7 _ (by omega)) (f7 _ (by omega))
    · have g : ∀ j, j ≠ 2 → h7 (a + 10) j = h4 (a + 10) j := fun j hj => by rw [e7, ft_hs_j hj, q62]
      have g2 : h7 (a + 10) 2 = h (a + 10) 2 + (h (a + 4) 2 - h2 (a + 4) 2) + 1 := by rw [e7, ft_hs_same]
      have k0 := congrArg (fun l => l.getD 0 0) c3
      have k1 := congrArg (fun l => l.getD 1 0) c3
      have k3 := congrArg (fun l => l.getD 3 0) c3
      simp [ft_ct] at k0 k1 k3
      unfold ft_ct
      rw [g 0 (by omega), g 1 (by omega), g 3 (by omega), g 4 (by omega), g2, k0, k1, k3, q44, hlen2]
    · rw [en, e7, ft_hs_same, ft_subL_eq ⟨by omega, by omega⟩, ft_l2i_eq ⟨by omega, by omega⟩]
      refine congrArg some (congrArg Sum.inl ?_)
      show h (a + 10) 2 + (h (a + 4) 2 - h2 (a + 4) 2) + 1 - h (a + 10) 2 = h (a + 4) 2 - (l1.length : Int) + 1
      omega
