/-! the number of runs is small -/
theorem sm_ge {f : Nat → Int} {k : Nat} : ∀ n, (∀ j, j < n → 0 ≤ f j) → k < n → f k ≤ sm f n
  | 0, _, h => absurd h (Nat.not_lt_zero k)
  | n + 1, h0, h => by
    have h1 : 0 ≤ sm f n := by
      clear h
      induction n with
      | zero => exact Int.le_refl 0
      | succ n ih =>
        have := ih (fun j hj => h0 j (by omega))
        have := h0 n (by omega)
        rw [sm]
        omega
    have h2 := h0 n (by omega)
    rw [sm]
    by_cases c : k = n
    · subst c; omega
    · have := sm_ge n (fun j hj => h0 j (by omega)) (show k < n by omega)
      omega
theorem cN_at (c : Int) : ∀ n : Nat, cN (fun x => decide (x = c)) n = if 0 ≤ c ∧ c < n then 1 else 0
  | 0 => by rw [cN, if_neg (by omega)]
  | n + 1 => by
    rw [cN, cN_at c n]
    simp only [decide_eq_true_eq]
    by_cases d : (n : Int) = c
    · rw [if_neg (by omega), if_pos d, if_pos (by omega)]; rfl
    · rw [if_neg d]
      by_cases e : 0 ≤ c ∧ c < n
      · rw [if_pos e, if_pos (by omega)]; rfl
      · rw [if_neg e, if_neg (by omega)]; rfl
theorem chg_le (L : List (Int × Int)) : ∀ n : Nat, cN (chg (ansOf L)) n ≤ sm (fun j => cN (fun x => decide (x = kS L j)) n + cN (fun x => decide (x = kE L j)) n) L.length
  | 0 => by
    rw [sm_zero]
    · exact Int.le_refl 0
    · intro j _; rfl
  | n + 1 => by
    have h1 := chg_le L n
    have h2 : sm (fun j => cN (fun x => decide (x = kS L j)) (n + 1) + cN (fun x => decide (x = kE L j)) (n + 1)) L.length = sm (fun j => cN (fun x => decide (x = kS L j)) n + cN (fun x => decide (x = kE L j)) n) L.length + sm (fun j => ind (decide ((n : Int) = kS L j)) + ind (decide ((n : Int) = kE L j))) L.length := by
      rw [← sm_add]
      refine sm_ext _ (fun k _ => ?_)
      rw [cN, cN]
      unfold ind
      omega
    have h0 : ∀ j, j < L.length → 0 ≤ ind (decide ((n : Int) = kS L j)) + ind (decide ((n : Int) = kE L j)) := fun j _ => by
      unfold ind
      split <;> split <;> omega
    have h3 : (if chg (ansOf L) (n : Int) = true then (1 : Int) else 0) ≤ sm (fun j => ind (decide ((n : Int) = kS L j)) + ind (decide ((n : Int) = kE L j))) L.length := by
      split
      · next hc =>
        have hex : ∃ j, j < L.length ∧ ((n : Int) = kS L j ∨ (n : Int) = kE L j) := by
          by_cases e : ∃ j, j < L.length ∧ ((n : Int) = kS L j ∨ (n : Int) = kE L j)
          · exact e
          · exfalso
            unfold chg at hc
            simp only [Bool.and_eq_true, decide_eq_true_eq] at hc
            refine hc.2 (ans_same (lmI_same (fun j hj => ?_)))
            have h4 : ¬ ((n : Int) = kS L j ∨ (n : Int) = kE L j) := fun q => e ⟨j, hj, q⟩
            rw [kIn_iff, kIn_iff]
            omega
        obtain ⟨j, hj, hq⟩ := hex
        have := sm_ge L.length h0 hj
        rcases hq with q | q
        · have e1 : ind (decide ((n : Int) = kS L j)) = 1 := by rw [decide_eq_true q]; rfl
          have e2 : 0 ≤ ind (decide ((n : Int) = kE L j)) := by unfold ind; split <;> omega
          omega
        · have e1 : ind (decide ((n : Int) = kE L j)) = 1 := by rw [decide_eq_true q]; rfl
          have e2 : 0 ≤ ind (decide ((n : Int) = kS L j)) := by unfold ind; split <;> omega
          omega
      · refine (sm_rng (b := 2) L.length (fun j hj => ⟨h0 j hj, ?_⟩)).1
        unfold ind
        split <;> split <;> omega
    rw [h2, cN]
    omega
theorem chg_cap (L : List (Int × Int)) (n : Nat) : 0 ≤ cN (chg (ansOf L)) n ∧ cN (chg (ansOf L)) n ≤ 2 * L.length := by
  have h1 := chg_le L n
  have h2 := sm_rng (f := fun j => cN (fun x => decide (x = kS L j)) n + cN (fun x => decide (x = kE L j)) n) (b := 2) L.length (fun j _ => by
    rw [cN_at, cN_at]
    split <;> split <;> omega)
  exact ⟨(cN_rng _ n).1, by omega⟩
def qRuns (S : ftS) : Int := 1 + cN (chg (ansOf S.2.1)) W32
theorem v_Mo_runs {h : ftH} {S : ftS} {P : List ftS} (hI : mcI h S P) {B : Int} (hok : sOk B S) {R : Option ftV → ftH → Prop} (hk : R (some (.inl (qRuns S))) h) :
    ∀ m t : Nat, W32 - t ≤ m → 0 < t → t ≤ W32 → ft_V k_Mo_runs 8 [some (.inr (.inr 309)), some (.inl (1 + cN (chg (ansOf S.2.1)) t)), some (.inr (.inl (t : Int))), none] [] h R := by
  have hW := W32_eq
  intro m
  induction m with
  | zero =>
    intro t hm h1 h2
    refine b_Mo_runs_8 ⟨fun c => ?_, fun c => absurd (by omega) c⟩
    rw [show t = W32 by omega]
    exact hk
  | succ m ih =>
    intro t hm h1 h2
    refine b_Mo_runs_8 ⟨fun c => by rw [show t = W32 by omega]; exact hk, fun c => ⟨_, d_Mo_answers rfl hI hok, fun z3 g _ hw => ?_⟩⟩
    obtain ⟨hz, rfl⟩ := hw
    have ht : pUn (ft_l2i (t : Int)) = (t : Int) := by
      rw [ft_l2i_un ⟨by omega, by omega⟩]
      unfold pUn
      omega
    have ht1 : pUn (ft_l2i (ft_subL (t : Int) 1)) = ((t - 1 : Nat) : Int) := by
      rw [ft_subL_eq ⟨by omega, by omega⟩, ft_l2i_un ⟨by omega, by omega⟩]
      unfold pUn
      omega
    rw [ht] at hz
    have hz := injI hz
    refine ⟨_, d_Mo_answers rfl hI hok, fun z6 g2 _ hw => ?_⟩
    obtain ⟨hz2, rfl⟩ := hw
    rw [ht1] at hz2
    have hz2 := injI hz2
    have hcap := chg_cap S.2.1 t
    have h60 := hok.2.1.2.2
    have hstep : ∀ e : Nat, t < e → (∀ x : Nat, t ≤ x → x < e → lmI S.2.1 (x : Int) = lmI S.2.1 (t : Int)) → cN (chg (ansOf S.2.1)) e = cN (chg (ansOf S.2.1)) t + if chg (ansOf S.2.1) (t : Int) = true then 1 else 0 := fun e e1 e2 => by
      rw [cN_seg (P := chg (ansOf S.2.1)) (b := false) (show t + 1 ≤ e by omega) (chg_seg (z := ansOf S.2.1 (t : Int)) (fun x x1 x2 => ans_same (e2 x x1 x2))), cN]
      simp
    refine ⟨fun d => ⟨_, d_Mo_edgeAbove hI hok (by omega), fun z9 g3 _ hw => ?_⟩, fun d => ⟨_, d_Mo_edgeAbove hI hok (by omega), fun z9 g3 _ hw => ?_⟩⟩
    · obtain ⟨rfl, e, hz9, k1, k2, k3⟩ := hw
      have hz9 := injL hz9
      subst hz9
      have hi := ih e (by omega) (by omega) k2
      rw [hstep e k1 k3, chg_no (Or.inr (by omega))] at hi
      simpa using hi
    · obtain ⟨rfl, e, hz9, k1, k2, k3⟩ := hw
      have hz9 := injL hz9
      subst hz9
      have hi := ih e (by omega) (by omega) k2
      rw [hstep e k1 k3, chg_yes (by omega) (by omega), if_pos rfl, ← Int.add_assoc] at hi
      rw [ft_add_eq ⟨by omega, by omega⟩]
      exact hi
theorem d_Mo_runs {h : ftH} {S : ftS} {P : List ftS} (hI : mcI h S P) {B : Int} (hok : sOk B S) : ft_C k_Mo_runs [.inr (.inr 309)] h (fun r h' => r = some (.inl (qRuns S)) ∧ h' = h) := by
  have hW := W32_eq
  refine ft_enter (n := 3) rfl (Nat.le_of_ble_eq_true rfl) rfl (b_Mo_runs_0 ⟨_, by rw [show (0 : Int) = ((0 : Nat) : Int) from rfl]; exact d_Mo_edgeAbove hI hok (by omega), fun z3 g _ hw => ?_⟩)
  obtain ⟨rfl, e, hz, k1, k2, k3⟩ := hw
  have hz := injL hz
  subst hz
  have := v_Mo_runs hI hok (R := fun r h' => r = some (.inl (qRuns S)) ∧ h' = g) ⟨rfl, rfl⟩ W32 e (by omega) k1 k2
  rw [cN_seg (P := chg (ansOf S.2.1)) (b := false) (show 0 ≤ e by omega) (fun x x1 x2 => ?_)] at this
  · simpa [cN] using this
  · by_cases c : x = 0
    · exact chg_no (Or.inl c)
    · exact chg_seg (w := 0) (w' := e) (z := ansOf S.2.1 ((0 : Nat) : Int)) (fun y y1 y2 => ans_same (k3 y y1 y2)) x (by omega) x2
/-! redundant routes -/
def idleI (L : List (Int × Int)) (i : Nat) : Prop := vAt L i = (if parI L i < 0 then 0 else vAt L (parI L i).toNat) ∨ ownI L i = 0
noncomputable def qIdle (L : List (Int × Int)) (i : Nat) : Int := by
  classical
  exact if idleI L i then 1 else 0
theorem qIdle_pos {L : List (Int × Int)} {i : Nat} (h : idleI L i) : qIdle L i = 1 := by unfold qIdle; exact if_pos h
theorem qIdle_neg {L : List (Int × Int)} {i : Nat} (h : ¬ idleI L i) : qIdle L i = 0 := by unfold qIdle; exact if_neg h
theorem d_Mo_isIdle {o : Nat} (ho : o = 10) {h : ftH} {S : ftS} {P : List ftS} (hI : mcI h S P) {B : Int} (hok : sOk B S) {i : Nat} (hi : i < S.2.1.length) : ft_C k_Mo_isIdle [.inr (.inr 309), .inl (i : Int)] h (fun r h' => r = some (.inl (qIdle S.2.1 i)) ∧ h' = h) := by
  obtain ⟨e0, e1, e2, e3, e4⟩ := mc_eq hI
  have hl := (mc_len hI).1
  obtain ⟨z1, z2, z3, z4, z5⟩ := ft_mz_0.mp hI.1.1
  rw [← ho] at e1 z4
  have hA := ml_k e1 (fun k hk => z4 k (by omega)) (show i < (h 310 0).toNat by omega)
  have hpr := parI_rng S.2.1 i
  refine ft_enter (n := 1) rfl (Nat.le_of_ble_eq_true rfl) rfl (b_Mo_isIdle_0 ⟨_, d_Mo_parentOf rfl hI hok hi, fun z3 g _ hw => ?_⟩)
  obtain ⟨hz, rfl⟩ := hw
  have hz := injI hz
  rw [Int.toNat_natCast, show 12 + 3 * i = o + 3 * i + 2 by omega, ← hA.2.2]
  refine ⟨⟨by omega, by omega⟩, fun c => ?_, fun c => ?_⟩
  · have hp : ¬ parI S.2.1 i < 0 := fun q => by rw [if_pos q] at hz; omega
    rw [if_neg hp] at hz
    obtain ⟨p, hp2⟩ := Int.eq_ofNat_of_zero_le c
    have hB := ml_k e1 (fun k hk => z4 k (by omega)) (show p < (g 310 0).toNat by omega)
    rw [hp2, Int.toNat_natCast, show 12 + 3 * p = o + 3 * p + 2 by omega, ← hB.2.2]
    have hval : (if parI S.2.1 i < 0 then 0 else vAt S.2.1 (parI S.2.1 i).toNat) = vAt S.2.1 p := by rw [if_neg hp, ← hz, hp2, Int.toNat_natCast]
    refine ⟨⟨by omega, by omega⟩, fun d => ⟨by rw [qIdle_pos (Or.inl (by rw [hval]; exact d))], rfl⟩, fun d => ⟨_, d_Mo_area rfl hI hok hi, fun z10 g2 _ hw => ?_⟩⟩
    obtain ⟨hz, rfl⟩ := hw
    have hz := injL hz
    exact ⟨fun f => ⟨by rw [qIdle_neg (fun q => ?_)]; rcases q with q | q; exact d (by rw [hval] at q; exact q); exact f (by rw [hz]; exact q), rfl⟩, fun f => ⟨by rw [qIdle_pos (Or.inr (by rw [← hz]; exact f))], rfl⟩⟩
  · have hp : parI S.2.1 i < 0 := by
      by_cases q : parI S.2.1 i < 0
      · exact q
      · rw [if_neg q] at hz; omega
    have hval : (if parI S.2.1 i < 0 then 0 else vAt S.2.1 (parI S.2.1 i).toNat) = 0 := if_pos hp
    refine ⟨fun d => ⟨by rw [qIdle_pos (Or.inl (by rw [hval]; exact d))], rfl⟩, fun d => ⟨_, d_Mo_area rfl hI hok hi, fun z10 g2 _ hw => ?_⟩⟩
    obtain ⟨hz, rfl⟩ := hw
    have hz := injL hz
    exact ⟨fun f => ⟨by rw [qIdle_neg (fun q => ?_)]; rcases q with q | q; exact d (by rw [hval] at q; exact q); exact f (by rw [hz]; exact q), rfl⟩, fun f => ⟨by rw [qIdle_pos (Or.inr (by rw [← hz]; exact f))], rfl⟩⟩
theorem qIdle_01 (L : List (Int × Int)) (i : Nat) : qIdle L i = 0 ∨ qIdle L i = 1 := by
  by_cases c : idleI L i
  · exact Or.inr (qIdle_pos c)
  · exact Or.inl (qIdle_neg c)
noncomputable def qRed1 (i : Int) (S : ftS) : Int := if 0 ≤ i ∧ i < S.2.1.length then qIdle S.2.1 i.toNat else 0
theorem d_Mo_isRedundant {h : ftH} {S : ftS} {P : List ftS} (hI : mcI h S P) {B : Int} (hok : sOk B S) {i : Int} : ft_C k_Mo_isRedundant [.inr (.inr 309), .inl i] h (fun r h' => r = some (.inl (qRed1 i S)) ∧ h' = h) := by
  have hl := (mc_len hI).1
  refine ft_enter (n := 0) rfl (Nat.le_of_ble_eq_true rfl) rfl (b_Mo_isRedundant_0 ⟨by omega, fun c => ?_, fun c => ?_⟩)
  · unfold qRed1
    rw [if_neg (by omega)]
    exact ⟨rfl, rfl⟩
  · obtain ⟨k, rfl⟩ := Int.eq_ofNat_of_zero_le c.1
    refine ⟨_, d_Mo_isIdle rfl hI hok (show k < S.2.1.length by omega), fun z g _ hw => ?_⟩
    obtain ⟨hz, rfl⟩ := hw
    have hz := injI hz
    unfold qRed1
    rw [if_pos (by omega), Int.toNat_natCast, ← hz]
    have := qIdle_01 S.2.1 k
    exact ⟨fun q => ⟨by rw [q], rfl⟩, fun q => ⟨by rw [show z = 1 by omega], rfl⟩⟩
noncomputable def qRed (S : ftS) : Int := sm (qIdle S.2.1) S.2.1.length
theorem qRed_rng (L : List (Int × Int)) (n : Nat) : 0 ≤ sm (qIdle L) n ∧ sm (qIdle L) n ≤ n := by
  have := sm_rng (f := qIdle L) (b := 1) n (fun j _ => by have := qIdle_01 L j; omega)
  omega
theorem v_Mo_redundant {h : ftH} {S : ftS} {P : List ftS} (hI : mcI h S P) {B : Int} (hok : sOk B S) {R : Option ftV → ftH → Prop} (hk : R (some (.inl (qRed S))) h) : ∀ m i : Nat, i + m = S.2.1.length → ft_V k_Mo_redundant 4 [some (.inr (.inr 309)), some (.inl (sm (qIdle S.2.1) i)), some (.inl (i : Int))] [] h R := by
  have hl := (mc_len hI).1
  have h60 := hok.2.1.2.2
  intro m
  induction m with
  | zero =>
    intro i hi
    refine b_Mo_redundant_4 ⟨fun c => ?_, fun c => absurd (by omega) c⟩
    rw [show i = S.2.1.length by omega]
    exact hk
  | succ m ih =>
    intro i hi
    refine b_Mo_redundant_4 ⟨fun c => absurd c (by omega), fun _ => ⟨_, d_Mo_isIdle rfl hI hok (show i < S.2.1.length by omega), fun z g _ hw => ?_⟩⟩
    obtain ⟨hz, rfl⟩ := hw
    have hz := injI hz
    have hih := ih (i + 1) (by omega)
    have hr := qRed_rng S.2.1 i
    rw [sm, ← hz] at hih
    rw [ft_add_eq (x := (i : Int)) ⟨by omega, by omega⟩]
    have := qIdle_01 S.2.1 i
    refine ⟨fun c => ?_, fun c => ?_⟩
    · rw [c, Int.add_zero] at hih
      exact hih
    · rw [show z = 1 by omega] at hih
      rw [ft_add_eq ⟨by omega, by omega⟩]
      exact hih
theorem d_Mo_redundant {h : ftH} {S : ftS} {P : List ftS} (hI : mcI h S P) {B : Int} (hok : sOk B S) : ft_C k_Mo_redundant [.inr (.inr 309)] h (fun r h' => r = some (.inl (qRed S)) ∧ h' = h) :=
  ft_enter (n := 2) rfl (Nat.le_of_ble_eq_true rfl) rfl (b_Mo_redundant_0 (v_Mo_redundant hI hok ⟨rfl, rfl⟩ S.2.1.length 0 (by omega)))
/-! nesting -/
def qNest (S : ftS) : Int := mx (fun j => (dep S.2.1 j : Int) + 1) S.2.1.length
theorem v_Mo_nest23 {h : ftH} {S : ftS} {P : List ftS} (hI : mcI h S P) {B : Int} (hok : sOk B S) {x1 x2 t : Int} (ht : t ≤ 33) {R : Option ftV → ftH → Prop} (hk : ft_V k_Mo_nesting 4 [some (.inr (.inr 309)), some (.inl (max x1 t)), some (.inl (ft_add x2 1)), none, none] [] h R) :
    ∀ (m : Nat) (u d : Int), u < m → u < S.2.1.length → (u < 0 → d = t) → (∀ p : Nat, u = (p : Int) → d + dep S.2.1 p + 1 = t) → 0 ≤ d → ft_V k_Mo_nesting 23 [some (.inr (.inr 309)), some (.inl x1), some (.inl x2), some (.inl d), some (.inl u)] [] h R := by
  have hend : ∀ (u d : Int), u < 0 → d = t → ft_V k_Mo_nesting 23 [some (.inr (.inr 309)), some (.inl x1), some (.inl x2), some (.inl d), some (.inl u)] [] h R := by
    intro u d hu hd
    subst hd
    refine b_Mo_nesting_23 ⟨fun _ => ⟨fun c => ?_, fun c => ?_⟩, fun c => absurd hu c⟩
    · rw [Int.max_eq_left c] at hk
      exact hk
    · rw [Int.max_eq_right (by omega)] at hk
      exact hk
  intro m
  induction m with
  | zero =>
    intro u d h1 h2 h3 h4 h5
    exact hend u d (by omega) (h3 (by omega))
  | succ m ih =>
    intro u d h1 h2 h3 h4 h5
    by_cases c : u < 0
    · exact hend u d c (h3 c)
    · obtain ⟨p, rfl⟩ := Int.eq_ofNat_of_zero_le (show 0 ≤ u by omega)
      have hp : p < S.2.1.length := by omega
      have hd := h4 p rfl
      refine b_Mo_nesting_23 ⟨fun q => absurd q c, fun _ => ⟨_, d_Mo_parentOf rfl hI hok hp, fun z g _ hw => ?_⟩⟩
      obtain ⟨hz, rfl⟩ := hw
      have hz := injI hz
      have hpr := parI_rng S.2.1 p
      have hdp := dep_par hok.2.1.1 hp
      rw [ft_add_eq ⟨by omega, by omega⟩]
      by_cases e : parI S.2.1 p < 0
      · rw [if_pos e] at hz
        refine ih z (d + 1) (by omega) (by omega) (fun _ => ?_) (fun q hq => by omega) (by omega)
        rw [hdp.1 e] at hd
        simpa using hd
      · rw [if_neg e] at hz
        refine ih z (d + 1) (by omega) (by omega) (fun q => by omega) (fun q hq => ?_) (by omega)
        rw [hdp.2 q (by omega)] at hd
        push_cast at hd
        omega
theorem v_Mo_nesting {h : ftH} {S : ftS} {P : List ftS} (hI : mcI h S P) {B : Int} (hok : sOk B S) {R : Option ftV → ftH → Prop} (hk : R (some (.inl (qNest S))) h) : ∀ m i : Nat, i + m = S.2.1.length → ft_V k_Mo_nesting 4 [some (.inr (.inr 309)), some (.inl (mx (fun j => (dep S.2.1 j : Int) + 1) i)), some (.inl (i : Int)), none, none] [] h R := by
  have hl := (mc_len hI).1
  have h60 := hok.2.1.2.2
  intro m
  induction m with
  | zero =>
    intro i hi
    refine b_Mo_nesting_4 ⟨fun c => ?_, fun c => absurd (by omega) c⟩
    rw [show i = S.2.1.length by omega]
    exact hk
  | succ m ih =>
    intro i hi
    have hi' : i < S.2.1.length := by omega
    refine b_Mo_nesting_4 ⟨fun c => absurd c (by omega), fun _ => ⟨_, d_Mo_parentOf rfl hI hok hi', fun z g _ hw => ?_⟩⟩
    obtain ⟨hz, rfl⟩ := hw
    have hz := injI hz
    have hih := ih (i + 1) (by omega)
    rw [mx] at hih
    have hdl := dep_le hok.2.1.1 i hi'
    have hr := kS_rng hok.2.1.1 hi'
    have hpr := parI_rng S.2.1 i
    have hdp := dep_par hok.2.1.1 hi'
    refine v_Mo_nest23 hI hok (t := (dep S.2.1 i : Int) + 1) (by omega) ?_ S.2.1.length z 1 ?_ ?_ (fun q => ?_) (fun p hp => ?_) (by omega)
    · rw [ft_add_eq ⟨by omega, by omega⟩]
      exact hih
    · split at hz <;> omega
    · split at hz <;> omega
    · have : parI S.2.1 i < 0 := by split at hz <;> omega
      rw [hdp.1 this]
      rfl
    · have : ¬ parI S.2.1 i < 0 := by
        intro q
        rw [if_pos q] at hz
        omega
      rw [if_neg this] at hz
      rw [hdp.2 p (by omega)]
      push_cast
      omega
theorem d_Mo_nesting {h : ftH} {S : ftS} {P : List ftS} (hI : mcI h S P) {B : Int} (hok : sOk B S) : ft_C k_Mo_nesting [.inr (.inr 309)] h (fun r h' => r = some (.inl (qNest S)) ∧ h' = h) :=
  ft_enter (n := 4) rfl (Nat.le_of_ble_eq_true rfl) rfl (b_Mo_nesting_0 (v_Mo_nesting hI hok ⟨rfl, rfl⟩ S.2.1.length 0 (by omega)))
/-! numbers of addresses -/
def qAdr (z : Int) (S : ftS) : Int := if 0 ≤ z ∧ z ≤ 15 then cN (fun x => decide (ansOf S.2.1 x = z)) W32 else -1
theorem ownI_rng (L : List (Int × Int)) (i : Nat) : 0 ≤ ownI L i ∧ ownI L i ≤ 4294967296 := by
  have := cN_rng (fun x => decide (lmI L x = (i : Int))) W32
  have hW := W32_eq
  unfold ownI
  omega
theorem v_Mo_addresses {o : Nat} (ho : o = 10) {h : ftH} {S : ftS} {P : List ftS} (hI : mcI h S P) {B : Int} (hok : sOk B S) {z : Int} (hz : 0 ≤ z ∧ z ≤ 15) {R : Option ftV → ftH → Prop} (hk : R (some (.inr (.inl (qAdr z S)))) h) : ∀ m i : Nat, i + m = S.2.1.length → ft_V k_Mo_addresses 24 [some (.inr (.inr 309)), some (.inl z), some (.inr (.inl (sm (fun i => if vAt S.2.1 i = z then ownI S.2.1 i else 0) i))), none, some (.inr (.inl (sm (ownI S.2.1) i))), none, some (.inl (i : Int)), none, none] [] h R := by
  obtain ⟨e0, e1, e2, e3, e4⟩ := mc_eq hI
  have hl := (mc_len hI).1
  have h60 := hok.2.1.2.2
  obtain ⟨z1, z2, z3, z4, z5⟩ := ft_mz_0.mp hI.1.1
  rw [← ho] at e1 z4
  have b1 : ∀ i, i ≤ 60 → 0 ≤ sm (fun i => if vAt S.2.1 i = z then ownI S.2.1 i else 0) i ∧ sm (fun i => if vAt S.2.1 i = z then ownI S.2.1 i else 0) i ≤ 4294967296 * 60 := fun i hi => by
    have := sm_rng (f := fun i => if vAt S.2.1 i = z then ownI S.2.1 i else 0) (b := 4294967296) i (fun j _ => by have := ownI_rng S.2.1 j; split <;> omega)
    omega
  have b2 : ∀ i, i ≤ 60 → 0 ≤ sm (ownI S.2.1) i ∧ sm (ownI S.2.1) i ≤ 4294967296 * 60 := fun i hi => by
    have := sm_rng (f := ownI S.2.1) (b := 4294967296) i (fun j _ => ownI_rng S.2.1 j)
    omega
  intro m
  induction m with
  | zero =>
    intro i hi
    have h1 := b1 i (by omega)
    have h2 := b2 i (by omega)
    have hc := ans_cN S.2.1 z W32
    have hW := W32_eq
    have e5 : qAdr z S = sm (fun i => if vAt S.2.1 i = z then ownI S.2.1 i else 0) S.2.1.length + if z = 0 then (W32 : Int) - sm (ownI S.2.1) S.2.1.length else 0 := by
      unfold qAdr
      rw [if_pos hz]
      exact hc
    have hi' : i = S.2.1.length := by omega
    refine b_Mo_addresses_24 ⟨fun _ => ⟨fun c => ?_, fun c => ?_⟩, fun c => absurd (by omega) c⟩
    · rw [if_neg c, Int.add_zero] at e5
      rw [hi', ← e5]
      exact hk
    · rw [if_pos c] at e5
      rw [ft_addL_eq ⟨by omega, by omega⟩, ft_subL_eq ⟨by omega, by omega⟩, hi', show sm (fun i => if vAt S.2.1 i = z then ownI S.2.1 i else 0) S.2.1.length + 4294967296 - sm (ownI S.2.1) S.2.1.length = qAdr z S by rw [e5]; omega]
      exact hk
  | succ m ih =>
    intro i hi
    have h1 := b1 i (by omega)
    have h2 := b2 i (by omega)
    have h3 := ownI_rng S.2.1 i
    have hA := ml_k e1 (fun k hk => z4 k (by omega)) (show i < (h 310 0).toNat by omega)
    refine b_Mo_addresses_24 ⟨fun c => absurd c (by omega), fun _ => ⟨_, d_Mo_area rfl hI hok (show i < S.2.1.length by omega), fun w3 g _ hw n4 ee => ?_⟩⟩
    have hz3 := injL hw.1
    have hg := hw.2
    subst hg
    have hih := ih (i + 1) (by omega)
    rw [sm, sm] at hih
    rw [hz3, ft_addL_eq ⟨by omega, by omega⟩] at ee
    rw [ee, ft_add_eq (x := (i : Int)) ⟨by omega, by omega⟩, Int.toNat_natCast, show 12 + 3 * i = o + 3 * i + 2 by omega, ← hA.2.2]
    refine ⟨⟨by omega, by omega⟩, fun c => ?_, fun c n7 e7 => ?_⟩
    · rw [if_neg c, Int.add_zero] at hih
      exact hih
    · rw [if_pos c] at hih
      rw [hz3, ft_addL_eq ⟨by omega, by omega⟩] at e7
      rw [e7]
      exact hih
theorem d_Mo_addresses {h : ftH} {S : ftS} {P : List ftS} (hI : mcI h S P) {B : Int} (hok : sOk B S) {z : Int} : ft_C k_Mo_addresses [.inr (.inr 309), .inl z] h (fun r h' => r = some (.inr (.inl (qAdr z S))) ∧ h' = h) := by
  refine ft_enter (n := 7) rfl (Nat.le_of_ble_eq_true rfl) rfl (b_Mo_addresses_0 ⟨fun c => ?_, fun c => ?_⟩)
  · exact v_Mo_addresses rfl hI hok c ⟨rfl, rfl⟩ S.2.1.length 0 (by omega)
  · unfold qAdr
    rw [if_neg c]
    exact ⟨rfl, rfl⟩
def qHwA (S : ftS) : Int := sm (fun i => if vAt S.2.2.1 i = 16 then 0 else ownI S.2.2.1 i) S.2.2.1.length
theorem qHwA_rng (L : List (Int × Int)) (n : Nat) (hn : n ≤ 80) : 0 ≤ sm (fun i => if vAt L i = 16 then 0 else ownI L i) n ∧ sm (fun i => if vAt L i = 16 then 0 else ownI L i) n ≤ 4294967296 * 80 := by
  have := sm_rng (f := fun i => if vAt L i = 16 then 0 else ownI L i) (b := 4294967296) n (fun j _ => by have := ownI_rng L j; split <;> omega)
  omega
theorem v_Mo_hwA {o : Nat} (ho : o = 270) {h : ftH} {S : ftS} {P : List ftS} (hI : mcI h S P) {B : Int} (hok : sOk B S) {R : Option ftV → ftH → Prop} (hk : R (some (.inr (.inl (qHwA S)))) h) : ∀ m i : Nat, i + m = S.2.2.1.length → ft_V k_Mo_hardwareAddresses 4 [some (.inr (.inr 309)), some (.inr (.inl (sm (fun i => if vAt S.2.2.1 i = 16 then 0 else ownI S.2.2.1 i) i))), none, some (.inl (i : Int))] [] h R := by
  obtain ⟨e0, e1, e2, e3, e4⟩ := mc_eq hI
  have hl := (mc_len hI).2.1
  obtain ⟨z1, z2, z3, z4, z5⟩ := ft_mz_0.mp hI.1.1
  rw [← ho] at e2 z5
  intro m
  induction m with
  | zero =>
    intro i hi
    refine b_Mo_hardwareAddresses_4 ⟨fun _ => ?_, fun c => absurd (by omega) c⟩
    rw [show i = S.2.2.1.length by omega]
    exact hk
  | succ m ih =>
    intro i hi
    have h1 := qHwA_rng S.2.2.1 i (by omega)
    have h3 := ownI_rng S.2.2.1 i
    have hA := ml_k e2 (fun k hk => z5 k (by omega)) (show i < (h 310 2).toNat by omega)
    have hih := ih (i + 1) (by omega)
    rw [sm] at hih
    refine b_Mo_hardwareAddresses_4 ⟨fun c => absurd c (by omega), fun _ => ?_⟩
    rw [Int.toNat_natCast, show 272 + 3 * i = o + 3 * i + 2 by omega, ← hA.2.2, ft_add_eq (x := (i : Int)) ⟨by omega, by omega⟩]
    refine ⟨⟨by omega, by omega⟩, fun c => ?_, fun c => ?_⟩
    · rw [if_pos c, Int.add_zero] at hih
      exact hih
    · rw [if_neg c] at hih
      rw [show h 310 2 = (((h 310 2).toNat : Nat) : Int) by omega, show (270 : Int) = ((o : Nat) : Int) by omega]
      refine ⟨_, c_Mo_areaOf (n := (h 310 2).toNat) (by omega) (fun k hk => z5 k (by omega)) e2 hok.2.2.1.1 (show i < (h 310 2).toNat by omega) (by omega), fun z g _ hw n6 e6 => ?_⟩
      have hg := hw.2
      subst hg
      rw [injL hw.1, ft_addL_eq ⟨by omega, by omega⟩] at e6
      rw [e6]
      exact hih
theorem d_Mo_hardwareAddresses {h : ftH} {S : ftS} {P : List ftS} (hI : mcI h S P) {B : Int} (hok : sOk B S) : ft_C k_Mo_hardwareAddresses [.inr (.inr 309)] h (fun r h' => r = some (.inr (.inl (qHwA S))) ∧ h' = h) :=
  ft_enter (n := 3) rfl (Nat.le_of_ble_eq_true rfl) rfl (b_Mo_hardwareAddresses_0 (v_Mo_hwA rfl hI hok ⟨rfl, rfl⟩ S.2.2.1.length 0 (by omega)))
