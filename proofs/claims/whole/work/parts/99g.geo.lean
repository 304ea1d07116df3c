/-! THE CLASS'S QUESTIONS OVER THE ROUTES' COVER, WITH THE CONTRACT OF SETTLE -/
theorem s1 {h : ftH} {S : ftS} {P : List ftS} (hI : ccI h S P) {B : Int} (hok : sOk B S) (hc : csI h S) : ft_C k_FT_settle [.inr (.inr 0), .inl 1] h (fun r h' => r = none ∧ (sFr h h' ∧ csI h' S) ∧ 1 ≤ h' 0 5) := c_FT_settle hI hok hc ⟨by omega, by omega⟩
theorem s1_cv {h h' : ftH} {S : ftS} (q : (sFr h h' ∧ csI h' S) ∧ 1 ≤ h' 0 5) : cvF h' 115 S.2.1 := q.1.2.2.1 q.2
theorem e_FT_runs {h : ftH} {S : ftS} {P : List ftS} (hI : ccI h S P) {B : Int} (hok : sOk B S) (hc : csI h S) : ft_C k_FT_runs [.inr (.inr 0)] h (fun r h' => r = some (.inl (qRuns S)) ∧ sFr h h' ∧ csI h' S) :=
  ft_Cw (d_FT_runs (Q := fun h' => (sFr h h' ∧ csI h' S) ∧ 1 ≤ h' 0 5) (s1 hI hok hc) (fun _ q => s1_cv q)) (fun _ _ q => ⟨q.1, q.2.1⟩)
theorem e_FT_nesting {h : ftH} {S : ftS} {P : List ftS} (hI : ccI h S P) {B : Int} (hok : sOk B S) (hc : csI h S) : ft_C k_FT_nesting [.inr (.inr 0)] h (fun r h' => r = some (.inl (qNest S)) ∧ sFr h h' ∧ csI h' S) :=
  ft_Cw (d_FT_nesting (Q := fun h' => (sFr h h' ∧ csI h' S) ∧ 1 ≤ h' 0 5) (s1 hI hok hc) (fun _ q => s1_cv q)) (fun _ _ q => ⟨q.1, q.2.1⟩)
theorem e_FT_nextOther {h : ftH} {S : ftS} {P : List ftS} (hI : ccI h S P) {B : Int} (hok : sOk B S) (hc : csI h S) {x : Int} : ft_C k_FT_nextOther [.inr (.inr 0), .inl x] h (fun r h' => (sFr h h' ∧ csI h' S) ∧ ∃ z, r = some (.inr (.inl z)) ∧ isNx (ansOf S.2.1) (pUn x).toNat z) :=
  ft_Cw (d_FT_nextOther (Q := fun h' => (sFr h h' ∧ csI h' S) ∧ 1 ≤ h' 0 5) (s1 hI hok hc) (fun _ q => s1_cv q)) (fun _ _ q => ⟨q.1.1, q.2⟩)
theorem e_FT_redundant {h : ftH} {S : ftS} {P : List ftS} (hI : ccI h S P) {B : Int} (hok : sOk B S) (hc : csI h S) : ft_C k_FT_redundant [.inr (.inr 0)] h (fun r h' => r = some (.inl (qRed S)) ∧ sFr h h' ∧ csI h' S) :=
  ft_Cw (d_FT_redundant (P := P) hok (Q := fun h' => (sFr h h' ∧ csI h' S) ∧ 1 ≤ h' 0 5) (s1 hI hok hc) (fun _ q => s1_cv q) (fun _ q => sFr_cc hI q.1.1)) (fun _ _ q => ⟨q.1, q.2.1⟩)
theorem e_FT_route {h : ftH} {S : ftS} {P : List ftS} (hI : ccI h S P) {B : Int} (hok : sOk B S) (hc : csI h S) {i w : Int} : ft_C k_FT_route [.inr (.inr 0), .inl i, .inl w] h (fun r h' => r = some (.inr (.inl (qRoute i w S))) ∧ sFr h h' ∧ csI h' S) := by
  obtain ⟨e0, e1, e2, e3, e4⟩ := cc_eq hI
  obtain ⟨l1, l2, l3⟩ := cc_len hI
  have h60 := hok.2.1.2.2
  have hq0 : sFr h h ∧ csI h S := ⟨sFr_rfl h, hc⟩
  have bad : (i < 0 ∨ ¬ (0 ≤ w ∧ w ≤ 4)) → ((some (.inr (.inl (-1))) : Option ftV) = some (.inr (.inl (qRoute i w S))) ∧ sFr h h ∧ csI h S) := fun q => by unfold qRoute; rw [if_pos q]; exact ⟨rfl, hq0⟩
  refine ft_enter (n := 0) rfl (Nat.le_of_ble_eq_true rfl) rfl (b_FT_route_0 ⟨fun c => bad (by omega), fun c => ⟨fun d => bad (by omega), fun d => ⟨fun f => ⟨fun g => ⟨fun k => ⟨_, s1 hI hok hc, fun h1 hw => ?_⟩, fun k => ?_⟩, fun g => ?_⟩, fun f => bad (by omega)⟩⟩⟩)
  · have hF := (s1_cv hw.2).1 i.toNat (by omega)
    unfold qRoute
    rw [if_neg (by omega), if_neg (by omega)]
    refine ⟨fun q => ⟨⟨by omega, by omega⟩, ?_, hw.2.1⟩, fun q => ⟨⟨by omega, by omega⟩, ?_, hw.2.1⟩⟩
    · rw [if_neg q, if_pos (by omega), hF.2.2]
      rfl
    · rw [if_pos q, hF.1]
  · have g2 := pl_at e1 (i := i) (by omega) (by omega)
    have hk := (hok.2.1.1.1 _ (List.mem_of_getElem? g2)).1.1.1
    have e9 : qRoute i w S = tellK (h (2 + 1) i.toNat, h (2 + 2) i.toNat) w := by
      unfold qRoute qTell
      rw [if_neg (by omega), if_neg (by omega), if_neg (by omega), if_neg (by omega), g2]
    rw [e9, show ft_ln (2 + 1) = 60 from ft_ln_3]
    exact ⟨⟨⟨by omega, by omega⟩, hk⟩, rfl, hq0⟩
  · unfold qRoute
    rw [if_neg (by omega), if_pos (by omega)]
    exact ⟨rfl, hq0⟩
theorem e_FT_addresses {h : ftH} {S : ftS} {P : List ftS} (hI : ccI h S P) {B : Int} (hok : sOk B S) (hc : csI h S) {z : Int} : ft_C k_FT_addresses [.inr (.inr 0), .inl z] h (fun r h' => r = some (.inr (.inl (qAdr z S))) ∧ sFr h h' ∧ csI h' S) := by
  have bad : ¬ (0 ≤ z ∧ z ≤ 15) → ((some (.inr (.inl (-1))) : Option ftV) = some (.inr (.inl (qAdr z S))) ∧ sFr h h ∧ csI h S) := fun q => by unfold qAdr; rw [if_neg q]; exact ⟨rfl, sFr_rfl h, hc⟩
  refine ft_enter (n := 3) rfl (Nat.le_of_ble_eq_true rfl) rfl (b_FT_addresses_0 ⟨fun c => bad (by omega), fun c => ⟨fun d => ⟨_, s1 hI hok hc, fun h1 hw => ?_⟩, fun d => bad (by omega)⟩⟩)
  have hF := s1_cv hw.2
  obtain ⟨m, hm, hml, hr⟩ := hF.2.2
  have hW := W32_eq
  have h0 : 0 < m := by have := hr.2.1; omega
  have := v_FT_addresses hF (z := z) ⟨by omega, d⟩ (R := fun r h' => r = some (.inr (.inl (qAdr z S))) ∧ sFr h h' ∧ csI h' S) ⟨rfl, hw.2.1⟩ hm m 0 0 (by omega) (fun _ => hr.2.2.1 h0) (fun q => by omega)
  exact this
theorem e_FT_isRedundant {h : ftH} {S : ftS} {P : List ftS} (hI : ccI h S P) {B : Int} (hok : sOk B S) (hc : csI h S) {i : Int} : ft_C k_FT_isRedundant [.inr (.inr 0), .inl i] h (fun r h' => r = some (.inl (qRed1 i S)) ∧ sFr h h' ∧ csI h' S) := by
  obtain ⟨l1, l2, l3⟩ := cc_len hI
  have bad : ¬ (0 ≤ i ∧ i < S.2.1.length) → ((some (.inl 0) : Option ftV) = some (.inl (qRed1 i S)) ∧ sFr h h ∧ csI h S) := fun q => by unfold qRed1; rw [if_neg q]; exact ⟨rfl, sFr_rfl h, hc⟩
  refine ft_enter (n := 0) rfl (Nat.le_of_ble_eq_true rfl) rfl (b_FT_isRedundant_0 ⟨fun c => bad (by omega), fun c => ⟨fun d => ⟨_, s1 hI hok hc, fun h1 hw => ?_⟩, fun d => bad (by omega)⟩⟩)
  obtain ⟨k, rfl⟩ := Int.eq_ofNat_of_zero_le (show 0 ≤ i by omega)
  refine ⟨_, d_FT_changesNoAnswer (sFr_cc hI hw.2.1.1) hok (s1_cv hw.2) (show k < S.2.1.length by omega), fun z h2 _ hw2 => ?_⟩
  have hz := injI hw2.1
  have := qIdle_01 S.2.1 k
  unfold qRed1
  rw [if_pos (by omega), Int.toNat_natCast, hw2.2, hz]
  exact ⟨this, rfl, hw.2.1⟩
