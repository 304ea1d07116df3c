/-! REPORTS: signs and numbers -/
/-- a text in an array -/
def sqI (h : ftH) (c : Nat) (X : List Int) : Prop := ∀ i, i < X.length → X[i]? = some (h c i)
theorem sqI_snoc {h h' : ftH} {c : Nat} {X : List Int} {x : Int} (hX : sqI h c X) (f : ∀ i, i ≠ X.length → h' c i = h c i) (e : h' c X.length = x) : sqI h' c (X ++ [x]) := by
  intro i hi
  rw [List.length_append, List.length_singleton] at hi
  by_cases t : i = X.length
  · rw [t, List.getElem?_append_right (Nat.le_refl _), Nat.sub_self, e]
    rfl
  · rw [List.getElem?_append_left (by omega), f i t]
    exact hX i (by omega)
def rpI (h : ftH) (X : List Int) : Prop := h 294 1 = (X.length : Int) ∧ sqI h 295 X
def txI (h : ftH) (X : List Int) : Prop := h 309 32 = (X.length : Int) ∧ sqI h 329 X
theorem c_Mo_writesSign {h : ftH} {X : List Int} (hX : txI h X) (hl : X.length < 2400) {x : Int} : ft_C k_Mo_writesSign [.inr (.inr 309), .inl x] h (fun r h' => r = none ∧ txI h' (X ++ [x]) ∧ (∀ c, c ≠ 309 → c ≠ 329 → h' c = h c) ∧ ∀ j, j ≠ 32 → h' 309 j = h 309 j) := by
  refine ft_enter (n := 0) rfl (Nat.le_of_ble_eq_true rfl) rfl (b_Mo_writesSign_0 ⟨by rw [hX.1]; omega, fun h1 e1 h2 e2 => ?_⟩)
  rw [hX.1, Int.toNat_natCast] at e1
  have g : h1 309 = h 309 := by rw [e1, ft_hs_ne 309 (by omega)]
  rw [g, hX.1, inc1 (by omega)] at e2
  refine ⟨rfl, ⟨by rw [e2, ft_hs_same, List.length_append]; rfl, sqI_snoc hX.2 (fun i hi => by rw [e2, ft_hs_ne 329 (by omega), e1, ft_hs_j hi]) (by rw [e2, ft_hs_ne 329 (by omega), e1, ft_hs_same])⟩, fun c c1 c2 => by rw [e2, ft_hs_ne c c1, e1, ft_hs_ne c c2], fun j hj => by rw [e2, ft_hs_j hj, g]⟩
theorem i2b_id {x : Int} (h0 : 0 ≤ x) (h1 : x ≤ 127) : ft_i2b (ft_i2b x) = x := by
  have : ∀ y : Int, 0 ≤ y → y ≤ 127 → Int.bmod y 256 = y := fun y a b => by
    rw [Int.bmod_def]
    rw [if_pos (by omega)]
    omega
  rw [ft_i2b_eq, ft_i2b_eq, this x h0 h1, this x h0 h1]
theorem c_Re_addSign {h : ftH} {X : List Int} (hX : rpI h X) (hl : X.length < 1760) {x : Int} (h0 : 0 ≤ x) (h1 : x ≤ 127) : ft_C k_Re_addSign [.inr (.inr 294), .inl x] h (fun r h' => r = none ∧ rpI h' (X ++ [x]) ∧ (∀ c, c ≠ 294 → c ≠ 295 → h' c = h c) ∧ ∀ j, j ≠ 1 → h' 294 j = h 294 j) := by
  refine ft_enter (n := 0) rfl (Nat.le_of_ble_eq_true rfl) rfl (b_Re_addSign_0 ⟨fun c => absurd c (by rw [hX.1]; omega), fun _ => ⟨by rw [hX.1]; omega, fun h1 e1 h2 e2 => ?_⟩⟩)
  rw [hX.1, Int.toNat_natCast, i2b_id h0 (by omega)] at e1
  have g : h1 294 = h 294 := by rw [e1, ft_hs_ne 294 (by omega)]
  rw [g, hX.1, inc1 (by omega)] at e2
  refine ⟨rfl, ⟨by rw [e2, ft_hs_same, List.length_append]; rfl, sqI_snoc hX.2 (fun i hi => by rw [e2, ft_hs_ne 295 (by omega), e1, ft_hs_j hi]) (by rw [e2, ft_hs_ne 295 (by omega), e1, ft_hs_same])⟩, fun c c1 c2 => by rw [e2, ft_hs_ne c c1, e1, ft_hs_ne c c2], fun j hj => by rw [e2, ft_hs_j hj, g]⟩
/-- the digits of n from the one that counts 10^k on -/
def dgs (n : Int) : Nat → List Int
  | 0 => [48 + n % 10]
  | k + 1 => (48 + n / 10 ^ (k + 1) % 10) :: dgs n k
theorem dgs_len (n : Int) : ∀ k, (dgs n k).length = k + 1
  | 0 => rfl
  | k + 1 => by rw [dgs, List.length_cons, dgs_len n k]
/-- how many digits stand behind the first -/
def tp (n : Int) : Nat := if n < 10 then 0 else if n < 100 then 1 else if n < 1000 then 2 else if n < 10000 then 3 else if n < 100000 then 4 else 5
def nTx (n : Int) : List Int := dgs n (tp n)
theorem tp_le (n : Int) : tp n ≤ 5 := by unfold tp; (repeat' split) <;> omega
theorem pw10 : (10 : Int) ^ 0 = 1 ∧ (10 : Int) ^ 1 = 10 ∧ (10 : Int) ^ 2 = 100 ∧ (10 : Int) ^ 3 = 1000 ∧ (10 : Int) ^ 4 = 10000 ∧ (10 : Int) ^ 5 = 100000 := by decide
def mTf (h h' : ftH) : Prop := (∀ c, c ≠ 309 → c ≠ 329 → h' c = h c) ∧ ∀ j, j ≠ 32 → h' 309 j = h 309 j
def cTf (h h' : ftH) : Prop := (∀ c, c ≠ 294 → c ≠ 295 → h' c = h c) ∧ ∀ j, j ≠ 1 → h' 294 j = h 294 j
theorem unit_rng {k : Nat} (hk : k ≤ 5) : 1 ≤ (10 : Int) ^ k ∧ (10 : Int) ^ k ≤ 100000 ∧ (10 : Int) ^ k / 10 = (if k = 0 then 0 else (10 : Int) ^ (k - 1)) := by
  obtain ⟨p0, p1, p2, p3, p4, p5⟩ := pw10
  match k, hk with
  | 0, _ => decide
  | 1, _ => decide
  | 2, _ => decide
  | 3, _ => decide
  | 4, _ => decide
  | 5, _ => decide
theorem v_Mo_num18 {h0 : ftH} {n : Int} (hn : 0 ≤ n ∧ n ≤ 999999) {X : List Int} {R : Option ftV → ftH → Prop} (k0 : Nat) (hl : X.length + k0 + 1 ≤ 2400) (hk : ∀ h', txI h' (X ++ dgs n k0) → mTf h0 h' → R none h') : ∀ (k : Nat) (Y : List Int) (h : ftH), k ≤ k0 → k0 ≤ 5 → Y ++ dgs n k = X ++ dgs n k0 → txI h Y → mTf h0 h → ft_V k_Mo_writesNumber 18 [some (.inr (.inr 309)), some (.inl n), some (.inl (10 ^ k))] [] h R := by
  intro k
  induction k with
  | zero =>
    intro Y h h1 h5 e hY f
    have hlen := congrArg List.length e
    rw [List.length_append, List.length_append, dgs_len, dgs_len] at hlen
    refine b_Mo_writesNumber_18 ⟨fun c => absurd c (by omega), fun _ => ⟨by omega, _, c_Mo_writesSign hY (by omega), fun g w n3 e3 => ?_⟩⟩
    obtain ⟨-, w1, w2, w3⟩ := w
    rw [ft_div_eq (by omega) (by omega) (by omega) (by omega)] at e3 w1
    rw [show n / 10 ^ 0 = n by omega, ft_rem_eq (by omega) (by omega) (by omega) (by omega), ft_add_eq (by unfold ft_in; omega)] at w1
    rw [e3, show (10 : Int) ^ 0 / 10 = 0 by decide]
    refine b_Mo_writesNumber_18 ⟨fun _ => hk g (by rw [← e]; exact w1) ⟨fun c c1 c2 => by rw [w2 c c1 c2, f.1 c c1 c2], fun j hj => by rw [w3 j hj, f.2 j hj]⟩, fun c => absurd (by omega) c⟩
  | succ k ih =>
    intro Y h h1 h5 e hY f
    have hlen := congrArg List.length e
    rw [List.length_append, List.length_append, dgs_len, dgs_len] at hlen
    have hu := unit_rng (k := k + 1) (by omega)
    have hq : 0 ≤ n / 10 ^ (k + 1) ∧ n / 10 ^ (k + 1) ≤ n := ⟨Int.ediv_nonneg hn.1 (by omega), Int.ediv_le_self _ hn.1⟩
    refine b_Mo_writesNumber_18 ⟨fun c => absurd c (by omega), fun _ => ⟨by omega, _, c_Mo_writesSign hY (by omega), fun g w n3 e3 => ?_⟩⟩
    obtain ⟨-, w1, w2, w3⟩ := w
    rw [ft_div_eq (by omega) (by omega) (by omega) (by omega)] at e3 w1
    rw [ft_rem_eq (by omega) (by omega) (by omega) (by omega), ft_add_eq (by unfold ft_in; omega)] at w1
    rw [e3, hu.2.2, if_neg (by omega), Nat.add_sub_cancel]
    refine ih _ g (by omega) h5 ?_ w1 ⟨fun c c1 c2 => by rw [w2 c c1 c2, f.1 c c1 c2], fun j hj => by rw [w3 j hj, f.2 j hj]⟩
    rw [← e, dgs, List.append_assoc]
    rfl
theorem v_Re_num24 {h0 : ftH} {n : Int} (hn : 0 ≤ n ∧ n ≤ 999999) {X : List Int} {R : Option ftV → ftH → Prop} (k0 : Nat) (hl : X.length + k0 + 1 ≤ 1760) (hk : ∀ h', rpI h' (X ++ dgs n k0) → cTf h0 h' → R none h') : ∀ (k : Nat) (Y : List Int) (h : ftH), k ≤ k0 → k0 ≤ 5 → Y ++ dgs n k = X ++ dgs n k0 → rpI h Y → cTf h0 h → ft_V k_Re_addNumber 24 [some (.inr (.inr 294)), some (.inl n), some (.inl (10 ^ k))] [] h R := by
  intro k
  induction k with
  | zero =>
    intro Y h h1 h5 e hY f
    have hlen := congrArg List.length e
    rw [List.length_append, List.length_append, dgs_len, dgs_len] at hlen
    refine b_Re_addNumber_24 ⟨fun c => absurd c (by omega), fun _ => ⟨by omega, _, c_Re_addSign hY (by omega) (by rw [ft_div_eq (by omega) (by omega) (by omega) (by omega), ft_rem_eq (by omega) (by omega) (by omega) (by omega), ft_add_eq (by unfold ft_in; omega)]; omega) (by rw [ft_div_eq (by omega) (by omega) (by omega) (by omega), ft_rem_eq (by omega) (by omega) (by omega) (by omega), ft_add_eq (by unfold ft_in; omega)]; omega), fun g w n3 e3 => ?_⟩⟩
    obtain ⟨-, w1, w2, w3⟩ := w
    rw [ft_div_eq (by omega) (by omega) (by omega) (by omega)] at e3 w1
    rw [show n / 10 ^ 0 = n by omega, ft_rem_eq (by omega) (by omega) (by omega) (by omega), ft_add_eq (by unfold ft_in; omega)] at w1
    rw [e3, show (10 : Int) ^ 0 / 10 = 0 by decide]
    refine b_Re_addNumber_24 ⟨fun _ => hk g (by rw [← e]; exact w1) ⟨fun c c1 c2 => by rw [w2 c c1 c2, f.1 c c1 c2], fun j hj => by rw [w3 j hj, f.2 j hj]⟩, fun c => absurd (by omega) c⟩
  | succ k ih =>
    intro Y h h1 h5 e hY f
    have hlen := congrArg List.length e
    rw [List.length_append, List.length_append, dgs_len, dgs_len] at hlen
    have hu := unit_rng (k := k + 1) (by omega)
    have hq : 0 ≤ n / 10 ^ (k + 1) ∧ n / 10 ^ (k + 1) ≤ n := ⟨Int.ediv_nonneg hn.1 (by omega), Int.ediv_le_self _ hn.1⟩
    refine b_Re_addNumber_24 ⟨fun c => absurd c (by omega), fun _ => ⟨by omega, _, c_Re_addSign hY (by omega) (by rw [ft_div_eq (by omega) (by omega) (by omega) (by omega), ft_rem_eq (by omega) (by omega) (by omega) (by omega), ft_add_eq (by unfold ft_in; omega)]; omega) (by rw [ft_div_eq (by omega) (by omega) (by omega) (by omega), ft_rem_eq (by omega) (by omega) (by omega) (by omega), ft_add_eq (by unfold ft_in; omega)]; omega), fun g w n3 e3 => ?_⟩⟩
    obtain ⟨-, w1, w2, w3⟩ := w
    rw [ft_div_eq (by omega) (by omega) (by omega) (by omega)] at e3 w1
    rw [ft_rem_eq (by omega) (by omega) (by omega) (by omega), ft_add_eq (by unfold ft_in; omega)] at w1
    rw [e3, hu.2.2, if_neg (by omega), Nat.add_sub_cancel]
    refine ih _ g (by omega) h5 ?_ w1 ⟨fun c c1 c2 => by rw [w2 c c1 c2, f.1 c c1 c2], fun j hj => by rw [w3 j hj, f.2 j hj]⟩
    rw [← e, dgs, List.append_assoc]
    rfl
theorem c_Mo_writesNumber {h : ftH} {n : Int} (hn : 0 ≤ n ∧ n ≤ 999999) {X : List Int} (hX : txI h X) (hl : X.length + tp n + 1 ≤ 2400) : ft_C k_Mo_writesNumber [.inr (.inr 309), .inl n] h (fun r h' => r = none ∧ txI h' (X ++ nTx n) ∧ mTf h h') := by
  refine ft_enter (n := 1) rfl (Nat.le_of_ble_eq_true rfl) rfl (b_Mo_writesNumber_0 ?_)
  have go : ∀ k, k ≤ 5 → tp n = k → ft_V k_Mo_writesNumber 18 [some (.inr (.inr 309)), some (.inl n), some (.inl (10 ^ k))] [] h (fun r h' => r = none ∧ txI h' (X ++ nTx n) ∧ mTf h h') := fun k hk e => v_Mo_num18 hn k (by omega) (fun h' a b => ⟨rfl, by unfold nTx; rw [e]; exact a, b⟩) k X h (Nat.le_refl k) hk rfl hX ⟨fun _ _ _ => rfl, fun _ _ => rfl⟩
  obtain ⟨p0, p1, p2, p3, p4, p5⟩ := pw10
  have g0 := go 0 (by omega)
  have g1 := go 1 (by omega)
  have g2 := go 2 (by omega)
  have g3 := go 3 (by omega)
  have g4 := go 4 (by omega)
  have g5 := go 5 (by omega)
  rw [p0] at g0
  rw [p1] at g1
  rw [p2] at g2
  rw [p3] at g3
  rw [p4] at g4
  rw [p5] at g5
  have st : ∀ u v : Int, 0 < u → u ≤ 100000 → v = u * 10 → (n / u ≤ 9 → ft_V k_Mo_writesNumber 18 [some (.inr (.inr 309)), some (.inl n), some (.inl u)] [] h (fun r h' => r = none ∧ txI h' (X ++ nTx n) ∧ mTf h h')) → (¬ n / u ≤ 9 → ft_V k_Mo_writesNumber 2 [some (.inr (.inr 309)), some (.inl n), some (.inl v)] [] h (fun r h' => r = none ∧ txI h' (X ++ nTx n) ∧ mTf h h')) → ft_V k_Mo_writesNumber 2 [some (.inr (.inr 309)), some (.inl n), some (.inl u)] [] h (fun r h' => r = none ∧ txI h' (X ++ nTx n) ∧ mTf h h') := fun u v u0 u1 e a b => by
    refine b_Mo_writesNumber_2 ⟨by omega, ?_⟩
    rw [ft_div_eq (by omega) (by omega) (by omega) (by omega)]
    refine ⟨a, fun c n1 e1 => ?_⟩
    rw [ft_mul_eq (by unfold ft_in; omega), ← e] at e1
    rw [e1]
    exact b c
  unfold tp at g0 g1 g2 g3 g4 g5
  refine st 1 10 (by omega) (by omega) rfl (fun c => g0 (by rw [if_pos (by omega)])) (fun c0 => ?_)
  refine st 10 100 (by omega) (by omega) rfl (fun c => g1 (by rw [if_neg (by omega), if_pos (by omega)])) (fun c1 => ?_)
  refine st 100 1000 (by omega) (by omega) rfl (fun c => g2 (by rw [if_neg (by omega), if_neg (by omega), if_pos (by omega)])) (fun c2 => ?_)
  refine st 1000 10000 (by omega) (by omega) rfl (fun c => g3 (by rw [if_neg (by omega), if_neg (by omega), if_neg (by omega), if_pos (by omega)])) (fun c3 => ?_)
  refine st 10000 100000 (by omega) (by omega) rfl (fun c => g4 (by rw [if_neg (by omega), if_neg (by omega), if_neg (by omega), if_neg (by omega), if_pos (by omega)])) (fun c4 => ?_)
  exact st 100000 1000000 (by omega) (by omega) rfl (fun c => g5 (by rw [if_neg (by omega), if_neg (by omega), if_neg (by omega), if_neg (by omega), if_neg (by omega)])) (fun c5 => absurd (by omega) c5)
theorem c_Re_addNumber {h : ftH} {n : Int} (hn : 0 ≤ n ∧ n ≤ 999999) {X : List Int} (hX : rpI h X) (hl : X.length + tp n + 1 ≤ 1760) : ft_C k_Re_addNumber [.inr (.inr 294), .inl n] h (fun r h' => r = none ∧ rpI h' (X ++ nTx n) ∧ cTf h h') := by
  refine ft_enter (n := 1) rfl (Nat.le_of_ble_eq_true rfl) rfl (b_Re_addNumber_0 ?_)
  have go : ∀ k, k ≤ 5 → tp n = k → ft_V k_Re_addNumber 24 [some (.inr (.inr 294)), some (.inl n), some (.inl (10 ^ k))] [] h (fun r h' => r = none ∧ rpI h' (X ++ nTx n) ∧ cTf h h') := fun k hk e => v_Re_num24 hn k (by omega) (fun h' a b => ⟨rfl, by unfold nTx; rw [e]; exact a, b⟩) k X h (Nat.le_refl k) hk rfl hX ⟨fun _ _ _ => rfl, fun _ _ => rfl⟩
  obtain ⟨p0, p1, p2, p3, p4, p5⟩ := pw10
  have g0 := go 0 (by omega)
  have g1 := go 1 (by omega)
  have g2 := go 2 (by omega)
  have g3 := go 3 (by omega)
  have g4 := go 4 (by omega)
  have g5 := go 5 (by omega)
  rw [p0] at g0
  rw [p1] at g1
  rw [p2] at g2
  rw [p3] at g3
  rw [p4] at g4
  rw [p5] at g5
  have st : ∀ u v : Int, 0 < u → u ≤ 10000 → v = u * 10 → (n / u < 10 → ft_V k_Re_addNumber 24 [some (.inr (.inr 294)), some (.inl n), some (.inl u)] [] h (fun r h' => r = none ∧ rpI h' (X ++ nTx n) ∧ cTf h h')) → (¬ n / u < 10 → ft_V k_Re_addNumber 2 [some (.inr (.inr 294)), some (.inl n), some (.inl v)] [] h (fun r h' => r = none ∧ rpI h' (X ++ nTx n) ∧ cTf h h')) → ft_V k_Re_addNumber 2 [some (.inr (.inr 294)), some (.inl n), some (.inl u)] [] h (fun r h' => r = none ∧ rpI h' (X ++ nTx n) ∧ cTf h h') := fun u v u0 u1 e a b => by
    refine b_Re_addNumber_2 ⟨fun c => absurd c (by omega), fun _ => ⟨by omega, ?_⟩⟩
    rw [ft_div_eq (by omega) (by omega) (by omega) (by omega)]
    refine ⟨a, fun c n1 e1 => ?_⟩
    rw [ft_mul_eq (by unfold ft_in; omega), ← e] at e1
    rw [e1]
    exact b c
  unfold tp at g0 g1 g2 g3 g4 g5
  refine st 1 10 (by omega) (by omega) rfl (fun c => g0 (by rw [if_pos (by omega)])) (fun c0 => ?_)
  refine st 10 100 (by omega) (by omega) rfl (fun c => g1 (by rw [if_neg (by omega), if_pos (by omega)])) (fun c1 => ?_)
  refine st 100 1000 (by omega) (by omega) rfl (fun c => g2 (by rw [if_neg (by omega), if_neg (by omega), if_pos (by omega)])) (fun c2 => ?_)
  refine st 1000 10000 (by omega) (by omega) rfl (fun c => g3 (by rw [if_neg (by omega), if_neg (by omega), if_neg (by omega), if_pos (by omega)])) (fun c3 => ?_)
  refine st 10000 100000 (by omega) (by omega) rfl (fun c => g4 (by rw [if_neg (by omega), if_neg (by omega), if_neg (by omega), if_neg (by omega), if_pos (by omega)])) (fun c4 => ?_)
  exact b_Re_addNumber_2 ⟨fun _ => g5 (by rw [if_neg (by omega), if_neg (by omega), if_neg (by omega), if_neg (by omega), if_neg (by omega)]), fun c => absurd (by omega) c⟩
