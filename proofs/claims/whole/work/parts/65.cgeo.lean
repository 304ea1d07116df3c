/-! THE QUESTIONS OVER THE COVER OF THE ROUTES -/
theorem cv_ln : ft_ln 120 = 121 := by decide +kernel
theorem d_FT_route {h : ftH} {S : ftS} {P : List ftS} (hI : ccI h S P) {B : Int} (hok : sOk B S) {Q : ftH → Prop} (hq0 : Q h) (hs : ft_C k_FT_settle [.inr (.inr 0), .inl 1] h (fun r h' => r = none ∧ Q h')) (hq : ∀ h', Q h' → cvF h' 115 S.2.1) {i w : Int} : ft_C k_FT_route [.inr (.inr 0), .inl i, .inl w] h (fun r h' => r = some (.inr (.inl (qRoute i w S))) ∧ Q h') := by
  obtain ⟨e0, e1, e2, e3, e4⟩ := cc_eq hI
  obtain ⟨l1, l2, l3⟩ := cc_len hI
  have h60 := hok.2.1.2.2
  have bad : (i < 0 ∨ ¬ (0 ≤ w ∧ w ≤ 4)) → ((some (.inr (.inl (-1))) : Option ftV) = some (.inr (.inl (qRoute i w S))) ∧ Q h) := fun q => by unfold qRoute; rw [if_pos q]; exact ⟨rfl, hq0⟩
  refine ft_enter (n := 0) rfl (Nat.le_of_ble_eq_true rfl) rfl (b_FT_route_0 ⟨fun c => bad (by omega), fun c => ⟨fun d => bad (by omega), fun d => ⟨fun f => ⟨fun g => ⟨fun k => ⟨_, hs, fun h1 hw => ?_⟩, fun k => ?_⟩, fun g => ?_⟩, fun f => bad (by omega)⟩⟩⟩)
  · have hF := (hq h1 hw.2).1 i.toNat (by omega)
    unfold qRoute
    rw [if_neg (by omega), if_neg (by omega)]
    refine ⟨fun q => ⟨⟨by omega, by omega⟩, ?_, hw.2⟩, fun q => ⟨⟨by omega, by omega⟩, ?_, hw.2⟩⟩
    · rw [if_neg q, if_pos (by omega), hF.2.2]
      rfl
    · rw [if_pos q, hF.1]
  · have g2 := pl_at e1 (i := i) (by omega) (by omega)
    have hk := (hok.2.1.1.1 _ (List.mem_of_getElem? g2)).1.1.1
    have e9 : qRoute i w S = tellK (h (2 + 1) i.toNat, h (2 + 2) i.toNat) w := by
      unfold qRoute qTell
      rw [if_neg (by omega), if_neg (by omega), if_neg (by omega), if_neg (by omega), g2]
    rw [e9, show ft_ln (2 + 1) = 60 from ft_ln_3]
    exact ⟨⟨⟨by omega, by omega⟩, hk⟩, rfl, hq0⟩
  · unfold qRoute
    rw [if_neg (by omega), if_pos (by omega)]
    exact ⟨rfl, hq0⟩
theorem d_FT_runs {h : ftH} {S : ftS} {Q : ftH → Prop} (hs : ft_C k_FT_settle [.inr (.inr 0), .inl 1] h (fun r h' => r = none ∧ Q h')) (hq : ∀ h', Q h' → cvF h' 115 S.2.1) : ft_C k_FT_runs [.inr (.inr 0)] h (fun r h' => r = some (.inl (qRuns S)) ∧ Q h') := by
  refine ft_enter (n := 0) rfl (Nat.le_of_ble_eq_true rfl) rfl (b_FT_runs_0 ⟨_, hs, fun h1 hw => ?_⟩)
  obtain ⟨-, -, m, hm, -, hr⟩ := hq h1 hw.2
  have h1 := hr.1
  have hW := W32_eq
  rw [if_neg (by omega)] at h1
  refine ⟨?_, hw.2⟩
  unfold qRuns
  rw [← h1, ← hm]
theorem d_FT_nesting {h : ftH} {S : ftS} {Q : ftH → Prop} (hs : ft_C k_FT_settle [.inr (.inr 0), .inl 1] h (fun r h' => r = none ∧ Q h')) (hq : ∀ h', Q h' → cvF h' 115 S.2.1) : ft_C k_FT_nesting [.inr (.inr 0)] h (fun r h' => r = some (.inl (qNest S)) ∧ Q h') := by
  refine ft_enter (n := 0) rfl (Nat.le_of_ble_eq_true rfl) rfl (b_FT_nesting_0 ⟨_, hs, fun h1 hw => ?_⟩)
  have := (hq h1 hw.2).2.1
  refine ⟨?_, hw.2⟩
  unfold qNest
  rw [← this]
theorem v_FT_addresses {h : ftH} {S : ftS} {z : Int} (hF : cvF h 115 S.2.1) (hz : 0 ≤ z ∧ z ≤ 15) {R : Option ftV → ftH → Prop} (hk : R (some (.inr (.inl (qAdr z S)))) h) {m : Nat} (hm : h 115 5 = (m : Int)) : ∀ n i s : Nat, i + n = m → (i < m → h 120 i = (s : Int)) → (i = m → s = W32) → ft_V k_FT_addresses 24 [some (.inr (.inr 0)), some (.inl z), some (.inr (.inl (cN (fun x => decide (ansOf S.2.1 x = z)) s))), none, some (.inl (i : Int))] [] h R := by
  obtain ⟨-, -, m', hm', hml, hr⟩ := hF
  have hW := W32_eq
  have emm : m' = m := by omega
  subst emm
  have hml : m' ≤ 121 := by have := cv_ln; rw [show 115 + 5 = 120 from rfl, this] at hml; exact hml
  intro n
  induction n with
  | zero =>
    intro i s hi h1 h2
    refine b_FT_addresses_24 ⟨fun _ => ?_, fun c => absurd (by omega) c⟩
    rw [h2 (by omega)]
    unfold qAdr at hk
    rw [if_pos hz] at hk
    exact hk
  | succ n ih =>
    intro i s hi h1 h2
    obtain ⟨s', e, g1, g2, g3, g4, g5, g6⟩ := hr.2.2.2 i (by omega)
    have g1 : h 120 i = (s' : Int) := g1
    have es : s' = s := by have := h1 (by omega); omega
    subst es
    have hcn := cN_rng (fun x => decide (ansOf S.2.1 x = z)) s'
    have hseg := cN_seg (P := fun x => decide (ansOf S.2.1 x = z)) (b := decide (h 121 i = z)) (show s' ≤ e by omega) (fun x x1 x2 => by rw [g6 x x1 x2])
    have hih := ih (i + 1) e (by omega) (fun q => (g4 q).1) (fun q => g5 q)
    rw [hseg] at hih
    have hend : (if (i : Int) + 1 < h 115 5 then h (115 + 5) ((i : Int) + 1).toNat else 4294967296) = (e : Int) := by
      by_cases q : i + 1 < m'
      · rw [if_pos (by omega), show ((i : Int) + 1).toNat = i + 1 by omega]
        exact (g4 q).1
      · rw [if_neg (by omega), g5 (by omega), hW]
    refine b_FT_addresses_24 ⟨fun c => absurd c (by omega), fun _ => ⟨⟨by omega, by omega⟩, fun c => ?_, fun c => ⟨⟨⟨by omega, by omega⟩, by rw [show 115 + 5 = 120 from rfl, cv_ln]; omega⟩, ⟨by omega, by omega⟩, fun n3 e3 => ?_⟩⟩⟩
    · rw [Int.toNat_natCast] at c
      rw [decide_eq_false c, if_neg (by simp), Int.add_zero] at hih
      rw [ft_add_eq ⟨by omega, by omega⟩]
      exact hih
    · rw [Int.toNat_natCast] at c
      rw [decide_eq_true c, if_pos rfl] at hih
      rw [hend, Int.toNat_natCast, g1, ft_subL_eq ⟨by omega, by omega⟩, ft_addL_eq ⟨by omega, by omega⟩] at e3
      rw [e3, ft_add_eq ⟨by omega, by omega⟩]
      exact hih
theorem d_FT_addresses {h : ftH} {S : ftS} {Q : ftH → Prop} (hq0 : Q h) (hs : ft_C k_FT_settle [.inr (.inr 0), .inl 1] h (fun r h' => r = none ∧ Q h')) (hq : ∀ h', Q h' → cvF h' 115 S.2.1) {z : Int} : ft_C k_FT_addresses [.inr (.inr 0), .inl z] h (fun r h' => r = some (.inr (.inl (qAdr z S))) ∧ Q h') := by
  have bad : ¬ (0 ≤ z ∧ z ≤ 15) → ((some (.inr (.inl (-1))) : Option ftV) = some (.inr (.inl (qAdr z S))) ∧ Q h) := fun q => by unfold qAdr; rw [if_neg q]; exact ⟨rfl, hq0⟩
  refine ft_enter (n := 3) rfl (Nat.le_of_ble_eq_true rfl) rfl (b_FT_addresses_0 ⟨fun c => bad (by omega), fun c => ⟨fun d => ⟨_, hs, fun h1 hw => ?_⟩, fun d => bad (by omega)⟩⟩)
  have hF := hq h1 hw.2
  obtain ⟨m, hm, hml, hr⟩ := hF.2.2
  have hW := W32_eq
  have h0 : 0 < m := by have := hr.2.1; omega
  have := v_FT_addresses hF (z := z) ⟨by omega, d⟩ (R := fun r h' => r = some (.inr (.inl (qAdr z S))) ∧ Q h') ⟨rfl, hw.2⟩ hm m 0 0 (by omega) (fun _ => hr.2.2.1 h0) (fun q => by omega)
  exact this
theorem v_FT_nextOther {h : ftH} {S : ftS} {a : Nat} (ha : a < W32) (hF : cvF h 115 S.2.1) {R : Option ftV → ftH → Prop} (hk : ∀ r, isNx (ansOf S.2.1) a r → R (some (.inr (.inl r))) h) {m : Nat} (hm : h 115 5 = (m : Int)) : ∀ n i : Nat, i + n = m → (∀ r, r < i → h 120 r ≤ (a : Int)) → ft_V k_FT_nextOther 15 [some (.inr (.inr 0)), none, some (.inr (.inl (a : Int))), none, some (.inl (i : Int))] [] h R := by
  obtain ⟨-, -, m', hm', hml, hr⟩ := hF
  have hW := W32_eq
  have emm : m' = m := by omega
  subst emm
  have hml : m' ≤ 121 := by have := cv_ln; rw [show 115 + 5 = 120 from rfl, this] at hml; exact hml
  have h0 : 0 < m' := by have := hr.2.1; omega
  intro n
  induction n with
  | zero =>
    intro i hi hle
    refine b_FT_nextOther_15 ⟨fun _ => hk _ (Or.inl ⟨rfl, ?_⟩), fun c => absurd (by omega) c⟩
    obtain ⟨s, e, g1, g2, g3, g4, g5, g6⟩ := hr.2.2.2 (m' - 1) (by omega)
    have g1 : h 120 (m' - 1) = (s : Int) := g1
    have := hle (m' - 1) (by omega)
    have g5 := g5 (by omega)
    intro x x1 x2
    rw [g6 x (by omega) (by omega), g6 a (by omega) (by omega)]
  | succ n ih =>
    intro i hi hle
    refine b_FT_nextOther_15 ⟨fun c => absurd c (by omega), fun _ => ⟨⟨by omega, by omega⟩, fun c => ?_, fun c => ⟨⟨by omega, by omega⟩, hk _ (Or.inr ?_)⟩⟩⟩
    · rw [Int.toNat_natCast] at c
      rw [ft_add_eq ⟨by omega, by omega⟩]
      refine ih (i + 1) (by omega) (fun r hr' => ?_)
      by_cases q : r = i
      · rw [q]; exact c
      · exact hle r (by omega)
    · rw [Int.toNat_natCast] at c ⊢
      have hi0 : i ≠ 0 := fun q => by
        rw [q] at c
        have : h 120 0 = 0 := hr.2.2.1 h0
        omega
      obtain ⟨s, e, g1, g2, g3, g4, g5, g6⟩ := hr.2.2.2 (i - 1) (by omega)
      obtain ⟨s', e', k1, k2, k3, k4, k5, k6⟩ := hr.2.2.2 i (by omega)
      have g1 : h 120 (i - 1) = (s : Int) := g1
      have k1 : h 120 i = (s' : Int) := k1
      have hg4 := g4 (by omega)
      rw [show i - 1 + 1 = i by omega] at hg4
      have q1 : h 120 i = (e : Int) := hg4.1
      have := hle (i - 1) (by omega)
      have es : s' = e := by omega
      refine ⟨e, q1, by omega, by omega, ?_, fun x x1 x2 => by rw [g6 x (by omega) x2, g6 a (by omega) (by omega)]⟩
      rw [k6 e (by omega) (by omega), g6 a (by omega) (by omega)]
      exact hg4.2
theorem d_FT_nextOther {h : ftH} {S : ftS} {Q : ftH → Prop} (hs : ft_C k_FT_settle [.inr (.inr 0), .inl 1] h (fun r h' => r = none ∧ Q h')) (hq : ∀ h', Q h' → cvF h' 115 S.2.1) {x : Int} : ft_C k_FT_nextOther [.inr (.inr 0), .inl x] h (fun r h' => Q h' ∧ ∃ z, r = some (.inr (.inl z)) ∧ isNx (ansOf S.2.1) (pUn x).toNat z) := by
  have hW := W32_eq
  have hu := pUn_rng x
  refine ft_enter (n := 3) rfl (Nat.le_of_ble_eq_true rfl) rfl (b_FT_nextOther_0 ⟨_, hs, fun h1 hw n3 e3 => ?_⟩)
  have hF := hq h1 hw.2
  obtain ⟨m, hm, hml, hr⟩ := hF.2.2
  rw [e3, show pUn x = ((pUn x).toNat : Int) by omega]
  exact v_FT_nextOther (by omega) hF (fun r hr => ⟨hw.2, r, rfl, hr⟩) hm m 0 (by omega) (fun r hr => absurd hr (Nat.not_lt_zero r))
theorem d_FT_changesNoAnswer {h : ftH} {S : ftS} {P : List ftS} (hI : ccI h S P) {B : Int} (hok : sOk B S) (hF : cvF h 115 S.2.1) {i : Nat} (hi : i < S.2.1.length) : ft_C k_FT_changesNoAnswer [.inr (.inr 0), .inl (i : Int)] h (fun r h' => r = some (.inl (qIdle S.2.1 i)) ∧ h' = h) := by
  obtain ⟨e0, e1, e2, e3, e4⟩ := cc_eq hI
  obtain ⟨l1, l2, l3⟩ := cc_len hI
  have h60 := hok.2.1.2.2
  have hFi := hF.1 i hi
  have hpr := parI_rng S.2.1 i
  have hv : ∀ k : Nat, k < S.2.1.length → h 4 k = vAt S.2.1 k := fun k hk => by
    have := pl_at e1 (i := (k : Int)) (by omega) (by omega)
    rw [Int.toNat_natCast] at this
    exact (kAt_of this).2.symm
  have hown : h 119 i = ownI S.2.1 i := hFi.2.2
  have hpar : h 117 i = parI S.2.1 i := hFi.1
  refine ft_enter (n := 2) rfl (Nat.le_of_ble_eq_true rfl) rfl (b_FT_changesNoAnswer_0 ⟨⟨by omega, by omega⟩, fun n1 en => ?_⟩)
  rw [Int.toNat_natCast, hpar] at en
  rw [Int.toNat_natCast, hown, hv i hi]
  refine ⟨fun c => ⟨⟨by omega, by omega⟩, fun n2 en2 => ⟨⟨by omega, by omega⟩, fun d => ⟨by rw [qIdle_pos (Or.inr d)], rfl⟩, fun d => ⟨⟨by omega, by omega⟩, fun f => ⟨?_, rfl⟩, fun f => ⟨?_, rfl⟩⟩⟩⟩, fun c => ⟨⟨by omega, by omega⟩, fun d => ⟨by rw [qIdle_pos (Or.inr d)], rfl⟩, fun d => ⟨⟨by omega, by omega⟩, fun f => ⟨?_, rfl⟩, fun f => ⟨?_, rfl⟩⟩⟩⟩
  · rw [hv _ (by omega)] at en2
    rw [qIdle_neg (fun q => ?_)]
    rcases q with q | q
    · rw [if_neg (by omega), ← en, ← en2] at q
      exact f q
    · exact d q
  · rw [hv _ (by omega)] at en2
    rw [qIdle_pos (Or.inl (by rw [if_neg (by omega), ← en, ← en2]; exact f))]
  · rw [qIdle_neg (fun q => ?_)]
    rcases q with q | q
    · rw [if_pos (by omega)] at q
      exact f q
    · exact d q
  · rw [qIdle_pos (Or.inl (by rw [if_pos (by omega)]; exact f))]
theorem d_FT_isRedundant {h : ftH} {S : ftS} {P : List ftS} (hI : ccI h S P) {B : Int} (hok : sOk B S) {Q : ftH → Prop} (hq0 : Q h) (hs : ft_C k_FT_settle [.inr (.inr 0), .inl 1] h (fun r h' => r = none ∧ Q h')) (hq : ∀ h', Q h' → cvF h' 115 S.2.1) (hqI : ∀ h', Q h' → ccI h' S P) {i : Int} : ft_C k_FT_isRedundant [.inr (.inr 0), .inl i] h (fun r h' => r = some (.inl (qRed1 i S)) ∧ Q h') := by
  obtain ⟨l1, l2, l3⟩ := cc_len hI
  have bad : ¬ (0 ≤ i ∧ i < S.2.1.length) → ((some (.inl 0) : Option ftV) = some (.inl (qRed1 i S)) ∧ Q h) := fun q => by unfold qRed1; rw [if_neg q]; exact ⟨rfl, hq0⟩
  refine ft_enter (n := 0) rfl (Nat.le_of_ble_eq_true rfl) rfl (b_FT_isRedundant_0 ⟨fun c => bad (by omega), fun c => ⟨fun d => ⟨_, hs, fun h1 hw => ?_⟩, fun d => bad (by omega)⟩⟩)
  obtain ⟨k, rfl⟩ := Int.eq_ofNat_of_zero_le (show 0 ≤ i by omega)
  refine ⟨_, d_FT_changesNoAnswer (hqI h1 hw.2) hok (hq h1 hw.2) (show k < S.2.1.length by omega), fun z h2 _ hw2 => ?_⟩
  have hz := injI hw2.1
  have := qIdle_01 S.2.1 k
  unfold qRed1
  rw [if_pos (by omega), Int.toNat_natCast, hw2.2, hz]
  exact ⟨this, rfl, hw.2⟩
theorem v_FT_redundant {h : ftH} {S : ftS} {P : List ftS} (hI : ccI h S P) {B : Int} (hok : sOk B S) (hF : cvF h 115 S.2.1) {R : Option ftV → ftH → Prop} (hk : R (some (.inl (qRed S))) h) : ∀ m i : Nat, i + m = S.2.1.length → ft_V k_FT_redundant 9 [some (.inr (.inr 0)), some (.inl (sm (qIdle S.2.1) i)), some (.inl (i : Int))] [] h R := by
  obtain ⟨l1, l2, l3⟩ := cc_len hI
  have h60 := hok.2.1.2.2
  intro m
  induction m with
  | zero =>
    intro i hi
    refine b_FT_redundant_9 ⟨fun c => ?_, fun c => absurd (by omega) c⟩
    rw [show i = S.2.1.length by omega]
    exact hk
  | succ m ih =>
    intro i hi
    refine b_FT_redundant_9 ⟨fun c => absurd c (by omega), fun _ => ⟨_, d_FT_changesNoAnswer hI hok hF (show i < S.2.1.length by omega), fun z g _ hw => ?_⟩⟩
    obtain ⟨hz, rfl⟩ := hw
    have hz := injI hz
    have hih := ih (i + 1) (by omega)
    have hr := qRed_rng S.2.1 i
    rw [sm, ← hz] at hih
    rw [ft_add_eq (x := (i : Int)) ⟨by omega, by omega⟩]
    have := qIdle_01 S.2.1 i
    refine ⟨fun c => ?_, fun c => ?_⟩
    · rw [c, Int.add_zero] at hih
      exact hih
    · rw [show z = 1 by omega] at hih
      rw [ft_add_eq ⟨by omega, by omega⟩]
      exact hih
theorem d_FT_redundant {h : ftH} {S : ftS} {P : List ftS} {B : Int} (hok : sOk B S) {Q : ftH → Prop} (hs : ft_C k_FT_settle [.inr (.inr 0), .inl 1] h (fun r h' => r = none ∧ Q h')) (hq : ∀ h', Q h' → cvF h' 115 S.2.1) (hqI : ∀ h', Q h' → ccI h' S P) : ft_C k_FT_redundant [.inr (.inr 0)] h (fun r h' => r = some (.inl (qRed S)) ∧ Q h') :=
  ft_enter (n := 2) rfl (Nat.le_of_ble_eq_true rfl) rfl (b_FT_redundant_0 ⟨_, hs, fun h1 hw => v_FT_redundant (hqI h1 hw.2) hok (hq h1 hw.2) ⟨rfl, hw.2⟩ S.2.1.length 0 (by omega)⟩)
theorem hwA_in {L : List (Int × Int)} {n i : Nat} (hn : n ≤ 80) : ft_inL (sm (fun i => if vAt L i = 16 then 0 else ownI L i) n + ownI L i) := by
  have h1 := qHwA_rng L n hn
  have h2 := ownI_rng L i
  exact ⟨by omega, by omega⟩
theorem v_FT_hwA {h : ftH} {S : ftS} {P : List ftS} (hI : ccI h S P) (hF : cvF h 302 S.2.2.1) {R : Option ftV → ftH → Prop} (hk : R (some (.inr (.inl (qHwA S)))) h) : ∀ m i : Nat, i + m = S.2.2.1.length → ft_V k_FT_hardwareAddresses 18 [some (.inr (.inr 0)), some (.inr (.inl (sm (fun i => if vAt S.2.2.1 i = 16 then 0 else ownI S.2.2.1 i) i))), none, some (.inl (i : Int))] [] h R := by
  obtain ⟨e0, e1, e2, e3, e4⟩ := cc_eq hI
  obtain ⟨l1, l2, l3⟩ := cc_len hI
  have z2 : 0 ≤ h 5 2 ∧ h 5 2 ≤ 80 := hI.1.1.2.1
  intro m
  induction m with
  | zero =>
    intro i hi
    refine b_FT_hardwareAddresses_18 ⟨fun _ => ?_, fun c => absurd (by omega) c⟩
    rw [show i = S.2.2.1.length by omega]
    exact hk
  | succ m ih =>
    intro i hi
    have h1 := qHwA_rng S.2.2.1 i (by omega)
    have h3 := ownI_rng S.2.2.1 i
    have hbd : ft_inL (sm (fun i => if vAt S.2.2.1 i = 16 then 0 else ownI S.2.2.1 i) i + ownI S.2.2.1 i) := hwA_in (by omega)
    have hown : h 306 i = ownI S.2.2.1 i := (hF.1 i (by omega)).2.2
    have hv : h 7 i = vAt S.2.2.1 i := by
      have := pl_at e2 (i := (i : Int)) (by omega) (by omega)
      rw [Int.toNat_natCast] at this
      exact (kAt_of this).2.symm
    have hih := ih (i + 1) (by omega)
    rw [sm] at hih
    refine b_FT_hardwareAddresses_18 ⟨fun c => absurd c (by omega), fun _ => ?_⟩
    rw [Int.toNat_natCast, hv, hown, ft_add_eq (x := (i : Int)) ⟨by omega, by omega⟩]
    refine ⟨⟨by omega, by omega⟩, fun c => ?_, fun c => ⟨⟨by omega, by omega⟩, fun n1 en => ?_⟩⟩
    · rw [if_pos c, Int.add_zero] at hih
      exact hih
    · rw [if_neg c] at hih
      rw [ft_addL_eq hbd] at en
      rw [en]
      exact hih
theorem ccI_fr {h h' : ftH} {S : ftS} {P : List ftS} (hI : ccI h S P) (hf : ∀ k, 1 ≤ k → k < 113 → h' k = h k) : ccI h' S P := by
  obtain ⟨⟨z, s⟩, p, hp, h2, h1, hP, hd⟩ := hI
  refine ⟨⟨ft_sz_same (fun k k1 k2 => hf k (by omega) (by omega)) z, by rw [ft_sa_same (fun k k1 k2 => hf k (by omega) (by omega)), s]⟩, p, hp, by rw [hf 23 (by omega) (by omega)]; exact h2, by rw [hf 23 (by omega) (by omega)]; exact h1, hP, fun d X hX => ?_⟩
  have h9 := hd d X hX
  have hs : ∀ k, slot ((p + 7 - d) % 8) ≤ k → k < slot ((p + 7 - d) % 8) + 11 → h' k = h k := fun k k1 k2 => hf k (by unfold slot at k1; omega) (by unfold slot at k2; omega)
  exact ⟨ft_sz_same hs h9.1, by rw [ft_sa_same hs, h9.2]⟩
theorem cv_ln2 : ft_ln 304 = 80 := by decide +kernel
theorem d_FT_hardwareAddresses {h : ftH} {S : ftS} {P : List ftS} (hI : ccI h S P) {B : Int} (hok : sOk B S) : ft_C k_FT_hardwareAddresses [.inr (.inr 0)] h (fun r h' => r = some (.inr (.inl (qHwA S))) ∧ ∀ k, k < 302 ∨ 309 ≤ k → h' k = h k) := by
  obtain ⟨p1, p2, p3⟩ := cc_ps hI hok
  obtain ⟨e0, e1, e2, e3, e4⟩ := cc_eq hI
  have hS := setI_of p2 e2
  refine ft_enter (n := 3) rfl (Nat.le_of_ble_eq_true rfl) rfl (b_FT_hardwareAddresses_0 ⟨_, c_Cv_sweep (a := 302) (b := 5) sh_302 sh_5 (Or.inl (by omega)) hok.2.2.1.1 (by have := hS.2.1; rw [show 302 + 2 = 304 from rfl, cv_ln2]; rw [show 5 + 1 = 6 from rfl, ft_ln_6] at this; exact this) hS, fun h1 hw => ?_⟩)
  exact v_FT_hwA (ccI_fr hI (fun k k1 k2 => hw.2.1 k (by omega))) hw.2.2 ⟨rfl, hw.2.1⟩ S.2.2.1.length 0 (by omega)
