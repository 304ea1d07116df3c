/-! PREFIX SETS: what a set holds, as a list of (key, hop); the contracts of its methods -/
def ft_pl (h : ftH) (a : Nat) : List (Int × Int) := (List.range (h a 2).toNat).map fun i => (h (a + 1) i, h (a + 2) i)
/-- a key of a prefix: 64 times its value, and its length -/
def pK (k : Int) : Prop := (0 ≤ k ∧ k < 274877906944) ∧ k % 64 ≤ 32 ∧ k / 64 % pSz (k % 64) = 0
/-- an address lies in a prefix -/
def pIn (k x : Int) : Prop := k / 64 ≤ x ∧ x < k / 64 + pSz (k % 64)
/-- a set in order -/
def ft_ps (h : ftH) (a : Nat) : Prop := (0 ≤ h a 2 ∧ h a 2 ≤ ft_ln (a + 1)) ∧ (∀ j : Nat, (j : Int) < h a 2 → pK (h (a + 1) j)) ∧ (∀ j : Nat, (j : Int) < h a 2 → 0 ≤ h (a + 2) j ∧ h (a + 2) j ≤ 16) ∧ ∀ i j : Nat, i < j → (j : Int) < h a 2 → h (a + 1) i < h (a + 1) j
theorem ft_pl_len (h : ftH) (a : Nat) : (ft_pl h a).length = (h a 2).toNat := by simp [ft_pl]
theorem ft_pl_get {h : ftH} {a i : Nat} (hi : (i : Int) < h a 2) : (ft_pl h a)[i]? = some (h (a + 1) i, h (a + 2) i) := by
  simp [ft_pl, List.getElem?_range (show i < (h a 2).toNat by omega)]
theorem ft_pl_none {h : ftH} {a i : Nat} (hi : h a 2 ≤ (i : Int)) : (ft_pl h a)[i]? = none := List.getElem?_eq_none (by rw [ft_pl_len]; omega)
theorem ft_pl_fr {h h' : ftH} {a b : Nat} (h0 : h' a 2 = h b 2) (h1 : ∀ j : Nat, (j : Int) < h b 2 → h' (a + 1) j = h (b + 1) j ∧ h' (a + 2) j = h (b + 2) j) : ft_pl h' a = ft_pl h b := by
  apply List.ext_getElem?
  intro i
  by_cases c : (i : Int) < h b 2
  · rw [ft_pl_get c, ft_pl_get (by omega), (h1 i c).1, (h1 i c).2]
  · rw [ft_pl_none (by omega), ft_pl_none (by omega)]
theorem v_PS_placeOf {a : Nat} (ha : ft_sh a = some (.inl 4)) {h : ftH} (hn : 0 ≤ h a 2 ∧ h a 2 ≤ ft_ln (a + 1)) {key : Int} {R : Option ftV → ftH → Prop} (hk : ∀ p : Nat, (p : Int) ≤ h a 2 → (∀ j, j < p → h (a + 1) j < key) → ((p : Int) < h a 2 → key ≤ h (a + 1) p) → R (some (.inl p)) h) :
    ∀ m i : Nat, i + m = (h a 2).toNat → (∀ j, j < i → h (a + 1) j < key) → ft_V k_PS_placeOf 2 [some (.inr (.inr a)), some (.inr (.inl key)), none, some (.inl (i : Int))] [] h R := by
  have hl := (ft_ln_ps ha).2.2
  intro m
  induction m with
  | zero =>
    intro i hi hlt
    exact b_PS_placeOf_2 ha ⟨fun c => hk i (by omega) hlt (by omega), fun c => absurd (by omega) c⟩
  | succ m ih =>
    intro i hi hlt
    refine b_PS_placeOf_2 ha ⟨fun c => hk i (by omega) hlt (by omega), fun c => ⟨⟨by omega, by omega⟩, fun d => hk i (by omega) hlt (fun _ => d), fun d => ?_⟩⟩
    rw [ft_add_eq ⟨by omega, by omega⟩]
    refine ih (i + 1) (by omega) (fun j hj => ?_)
    by_cases e : j = i
    · rw [e]
      have d2 : ¬ key ≤ h (a + 1) i := d
      omega
    · exact hlt j (by omega)
theorem c_PS_placeOf {a : Nat} (ha : ft_sh a = some (.inl 4)) {h : ftH} (hn : 0 ≤ h a 2 ∧ h a 2 ≤ ft_ln (a + 1)) {key : Int} : ft_C k_PS_placeOf [.inr (.inr a), .inr (.inl key)] h (fun r h' => h' = h ∧ ∃ p : Nat, r = some (.inl (p : Int)) ∧ (p : Int) ≤ h a 2 ∧ (∀ j, j < p → h (a + 1) j < key) ∧ ((p : Int) < h a 2 → key ≤ h (a + 1) p)) :=
  ft_enter (n := 1) rfl (Nat.le_of_ble_eq_true rfl) rfl (b_PS_placeOf_0 ha (v_PS_placeOf ha hn (fun p h1 h2 h3 => ⟨rfl, p, rfl, h1, h2, h3⟩) (h a 2).toNat 0 (by omega) (fun j hj => absurd hj (Nat.not_lt_zero j))))
/-- indexOf: the place of the key, or -1 -/
theorem c_PS_indexOf {a : Nat} (ha : ft_sh a = some (.inl 4)) {h : ftH} (hs : ft_ps h a) {key : Int} : ft_C k_PS_indexOf [.inr (.inr a), .inr (.inl key)] h (fun r h' => h' = h ∧ ((r = some (.inl (-1)) ∧ ∀ j : Nat, (j : Int) < h a 2 → h (a + 1) j ≠ key) ∨ ∃ p : Nat, r = some (.inl (p : Int)) ∧ (p : Int) < h a 2 ∧ h (a + 1) p = key)) := by
  refine ft_enter (n := 1) rfl (Nat.le_of_ble_eq_true rfl) rfl (b_PS_indexOf_0 ha ⟨_, c_PS_placeOf ha hs.1, fun z h1 _ hw => ?_⟩)
  obtain ⟨rfl, p, hz, h1, h2, h3⟩ := hw
  cases hz
  obtain ⟨hn, hk, hh, ho⟩ := hs
  refine ⟨fun c => ⟨rfl, Or.inl ⟨rfl, fun j hj => ?_⟩⟩, fun c => ⟨⟨by omega, by omega⟩, fun d => ⟨rfl, Or.inl ⟨rfl, fun j hj => ?_⟩⟩, fun d => ⟨rfl, Or.inr ⟨p, rfl, by omega, d⟩⟩⟩⟩
  · have := h2 j (by omega)
    omega
  · rcases Nat.lt_trichotomy j p with q | q | q
    · have := h2 j q
      omega
    · rw [q]
      exact d
    · have := ho p j q hj
      have := h3 (by omega)
      omega
/-- longest: the last that contains the address, or -1 -/
theorem v_PS_longest {a : Nat} (ha : ft_sh a = some (.inl 4)) {h : ftH} (hs : ft_ps h a) {x : Int} {R : Option ftV → ftH → Prop} (hk : ∀ r : Int, (r = -1 ∧ ∀ j : Nat, (j : Int) < h a 2 → ¬ pIn (h (a + 1) j) x) ∨ (∃ p : Nat, r = p ∧ (p : Int) < h a 2 ∧ pIn (h (a + 1) p) x ∧ ∀ j : Nat, p < j → (j : Int) < h a 2 → ¬ pIn (h (a + 1) j) x) → R (some (.inl r)) h) :
    ∀ m : Nat, (m : Int) ≤ h a 2 → (∀ j : Nat, m ≤ j → (j : Int) < h a 2 → ¬ pIn (h (a + 1) j) x) → ft_V k_PS_longest 7 [some (.inr (.inr a)), some (.inr (.inl x)), none, some (.inl ((m : Int) - 1))] [] h R := by
  have hl := (ft_ln_ps ha).2.2
  have hn := hs.1
  intro m
  induction m with
  | zero =>
    intro hm hj
    exact b_PS_longest_7 ha ⟨fun c => hk _ (Or.inl ⟨rfl, fun j hj' => hj j (Nat.zero_le j) hj'⟩), fun c => absurd (by omega) c⟩
  | succ m ih =>
    intro hm hj
    have e : ((m + 1 : Nat) : Int) - 1 = (m : Int) := by omega
    rw [e]
    have hK := hs.2.1 m (by omega)
    refine b_PS_longest_7 ha ⟨fun c => absurd c (by omega), fun c => ⟨⟨by omega, by omega⟩, ⟨hK.1, hK.2.1⟩, fun d => ?_, fun d => hk _ (Or.inr ⟨m, rfl, by omega, d, fun j q hj' => hj j q hj'⟩)⟩⟩
    rw [ft_add_eq ⟨by omega, by omega⟩]
    refine ih (by omega) (fun j q hj' => ?_)
    by_cases e2 : j = m
    · rw [e2]
      exact d
    · exact hj j (by omega) hj'
theorem c_PS_longest {a : Nat} (ha : ft_sh a = some (.inl 4)) {h : ftH} (hs : ft_ps h a) {x : Int} : ft_C k_PS_longest [.inr (.inr a), .inr (.inl x)] h (fun q h' => h' = h ∧ ∃ r : Int, q = some (.inl r) ∧ ((r = -1 ∧ ∀ j : Nat, (j : Int) < h a 2 → ¬ pIn (h (a + 1) j) x) ∨ (∃ p : Nat, r = p ∧ (p : Int) < h a 2 ∧ pIn (h (a + 1) p) x ∧ ∀ j : Nat, p < j → (j : Int) < h a 2 → ¬ pIn (h (a + 1) j) x))) := by
  have hl := (ft_ln_ps ha).2.2
  have hn := hs.1
  refine ft_enter (n := 1) rfl (Nat.le_of_ble_eq_true rfl) rfl (b_PS_longest_0 ha (fun n1 e1 => ?_))
  rw [e1, ft_sub_eq ⟨by omega, by omega⟩]
  have := v_PS_longest ha hs (x := x) (R := fun q h' => h' = h ∧ ∃ r : Int, q = some (.inl r) ∧ ((r = -1 ∧ ∀ j : Nat, (j : Int) < h a 2 → ¬ pIn (h (a + 1) j) x) ∨ (∃ p : Nat, r = p ∧ (p : Int) < h a 2 ∧ pIn (h (a + 1) p) x ∧ ∀ j : Nat, p < j → (j : Int) < h a 2 → ¬ pIn (h (a + 1) j) x))) (fun r hr => ⟨rfl, r, rfl, hr⟩) (h a 2).toNat (by omega) (fun j q1 q2 => absurd q2 (by omega))
  rwa [Int.toNat_of_nonneg hn.1] at this
theorem c_PS_answersByHop {a : Nat} (ha : ft_sh a = some (.inl 4)) {h : ftH} (hs : ft_ps h a) {x : Int} : ft_C k_PS_answersByHop [.inr (.inr a), .inr (.inl x)] h (fun q h' => h' = h ∧ ((q = some (.inl 0) ∧ ((∀ j : Nat, (j : Int) < h a 2 → ¬ pIn (h (a + 1) j) x) ∨ ∃ p : Nat, (p : Int) < h a 2 ∧ pIn (h (a + 1) p) x ∧ (∀ j : Nat, p < j → (j : Int) < h a 2 → ¬ pIn (h (a + 1) j) x) ∧ h (a + 2) p = 16)) ∨ (q = some (.inl 1) ∧ ∃ p : Nat, (p : Int) < h a 2 ∧ pIn (h (a + 1) p) x ∧ (∀ j : Nat, p < j → (j : Int) < h a 2 → ¬ pIn (h (a + 1) j) x) ∧ h (a + 2) p ≠ 16))) := by
  have hl := ft_ln_ps ha
  have hn := hs.1
  refine ft_enter (n := 1) rfl (Nat.le_of_ble_eq_true rfl) rfl (b_PS_answersByHop_0 ha ⟨_, c_PS_longest ha hs, fun z h1 _ hw => ?_⟩)
  obtain ⟨rfl, r, hz, hr⟩ := hw
  cases hz
  rcases hr with ⟨rfl, hr⟩ | ⟨p, rfl, hp, hin, hj⟩
  · exact ⟨fun c => ⟨rfl, Or.inl ⟨rfl, Or.inl hr⟩⟩, fun c => absurd (by decide) c⟩
  · exact ⟨fun c => absurd c (by omega), fun c => ⟨⟨by omega, by omega⟩, fun d => ⟨rfl, Or.inl ⟨rfl, Or.inr ⟨p, hp, hin, hj, d⟩⟩⟩, fun d => ⟨rfl, Or.inr ⟨rfl, p, hp, hin, hj, d⟩⟩⟩⟩
