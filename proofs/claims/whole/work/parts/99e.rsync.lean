/-! CHANGES, CHANGE, MISSEDAFTER AND SYNC OF THE REFERENCE -/
/-- what these leave alone -/
def wFr (h h' : ftH) : Prop := (∀ c, (c < 312 ∧ c ≠ 309 ∧ c ≠ 310) ∨ (329 ≤ c ∧ c ≤ 332) → h' c = h c) ∧ ∀ j, j = 4 ∨ 34 ≤ j → h' 309 j = h 309 j
theorem wFr_rfl (h : ftH) : wFr h h := ⟨fun _ _ => rfl, fun _ _ => rfl⟩
theorem flI_312 {h h' : ftH} {S : ftS} (f : ∀ c, c ≠ 312 → h' c = h c) (hl : flI h S) : flI h' S := by
  have fr : rFr h (fun c => if c = 312 then h c else h' c) := ⟨fun c _ _ => by
    by_cases t : c = 312
    · simp only [t, if_true]
    · simp only [t, if_false]; exact f c t, fun j _ => by simp only [show (309 : Nat) ≠ 312 by omega, if_false]; rw [f 309 (by omega)]⟩
  rcases hl with a | a
  · exact Or.inl (by rw [f 309 (by omega)]; exact a)
  · refine Or.inr ⟨enI_fr a.1 (by rw [f 309 (by omega)]) (f 318 (by omega)) (f 319 (by omega)) (f 320 (by omega)), fun i hi => ?_, by rw [f 309 (by omega)]; exact a.2.2⟩
    rw [f 321 (by omega), f 322 (by omega), f 325 (by omega)]
    exact a.2.1 i hi
theorem aside_back {h h1 h2 h3 : ftH} {S : ftS} {P : List ftS} (hI : mcI h S P) (a1 : ∀ c, c ≠ 312 → h1 c = h c) (a2 : ∀ j, j < 520 → h1 312 j = h 310 j) (z : zFr h1 h2) (k : kI h2 S) (b1 : ∀ c, c ≠ 310 → h3 c = h2 c) (b2 : ∀ j, j < 520 → h3 310 j = h2 312 j) : wFr h h3 ∧ mcI h3 S P ∧ flI h3 S := by
  refine ⟨⟨fun c hc => by rw [b1 c (by omega), z.1 c (by omega), a1 c (by omega)], fun j hj => by rw [b1 309 (by omega), z.2 j hj, a1 309 (by omega)]⟩, mcI_520 hI (fun j hj => by rw [b2 j hj, z.1 312 (by omega), a2 j hj]) (by rw [b1 311 (by omega), z.1 311 (by omega), a1 311 (by omega)]) (by rw [b1 309 (by omega), z.2 4 (by omega), a1 309 (by omega)]), Or.inr (laI_fr (rFr_310 b1) k.2.1)⟩
theorem d_Mo_changes {h : ftH} {S : ftS} {P : List ftS} (hI : mcI h S P) {B : Int} (hB : B + 300 ≤ 1000000000) (hok : sOk B S) (hla : flI h S) : ft_C k_Mo_changes [.inr (.inr 309)] h (fun r h' => r = some (.inl ((sP S).length : Int)) ∧ wFr h h' ∧ mcI h' S P ∧ flI h' S) := by
  have hpl := sP_len hok
  refine ft_enter (n := 1) rfl (Nat.le_of_ble_eq_true rfl) rfl (b_Mo_changes_0 ⟨_, c_Mo_laysAside, fun h1 hw => ?_⟩)
  obtain ⟨-, a1, a2⟩ := hw
  have hI1 : mcI h1 S P := mcI_fr hI (a1 310 (by omega)) (a1 311 (by omega)) (by rw [a1 309 (by omega)])
  refine ⟨_, c_Mo_syncs hI1 hB hok (flI_312 a1 hla) (lim := 1000) (n := (sP S).length) (by omega) (by omega), fun z h2 _ w => ?_⟩
  obtain ⟨w1, w2, w3, -, -⟩ := w
  refine ⟨_, c_Mo_comesBack, fun h3 w => ?_⟩
  obtain ⟨-, b1, b2⟩ := w
  exact ⟨w1, aside_back hI a1 a2 w2 w3 b1 b2⟩
theorem d_Mo_change {h : ftH} {S : ftS} {P : List ftS} (hI : mcI h S P) {B : Int} (hB : B + 300 ≤ 1000000000) (hok : sOk B S) (hla : flI h S) {i w : Int} : ft_C k_Mo_change [.inr (.inr 309), .inl i, .inl w] h (fun r h' => r = some (.inr (.inl (qChg i w S))) ∧ wFr h h' ∧ mcI h' S P ∧ flI h' S) := by
  have hpl := sP_len hok
  have bad : (i < 0 ∨ ¬ (0 ≤ w ∧ w ≤ 3)) → ((some (.inr (.inl (-1))) : Option ftV) = some (.inr (.inl (qChg i w S))) ∧ wFr h h ∧ mcI h S P ∧ flI h S) := fun q => by unfold qChg; rw [if_pos q]; exact ⟨rfl, wFr_rfl h, hI, hla⟩
  refine ft_enter (n := 1) rfl (Nat.le_of_ble_eq_true rfl) rfl (b_Mo_change_0 ⟨fun c => bad (Or.inl c), fun c => ⟨fun d => ⟨_, c_Mo_laysAside, fun h1 hw => ?_⟩, fun d => bad (Or.inr d)⟩⟩)
  obtain ⟨-, a1, a2⟩ := hw
  have hI1 : mcI h1 S P := mcI_fr hI (a1 310 (by omega)) (a1 311 (by omega)) (by rw [a1 309 (by omega)])
  have none2 : ((sP S).length : Int) ≤ i → qChg i w S = -2 := fun q => by
    unfold qChg
    rw [if_neg (by omega), List.getElem?_eq_none (by omega)]
  refine ⟨fun f => ⟨_, c_Mo_syncs hI1 hB hok (flI_312 a1 hla) (lim := 1000) (n := (sP S).length) (by omega) (by omega), fun z h2 _ v => ?_⟩, fun f => ?_⟩
  · obtain ⟨w1, w2, w3, -, -⟩ := v
    have hz := injI w1
    subst hz
    refine ⟨_, c_Mo_comesBack, fun h3 v => ?_⟩
    obtain ⟨-, b1, b2⟩ := v
    refine ⟨fun q => absurd q (by omega), fun q => ?_⟩
    rw [none2 (by omega)]
    exact ⟨rfl, aside_back hI a1 a2 w2 w3 b1 b2⟩
  · obtain ⟨k, rfl⟩ : ∃ k : Nat, i = (k : Int) := ⟨i.toNat, by omega⟩
    rw [inc1 (by omega)]
    refine ⟨_, c_Mo_syncs hI1 hB hok (flI_312 a1 hla) (lim := k + 1) (n := min (k + 1) (sP S).length) (by omega) rfl, fun z h2 _ v => ?_⟩
    obtain ⟨w1, w2, w3, -, w5⟩ := v
    have hz := injI w1
    subst hz
    refine ⟨_, c_Mo_comesBack, fun h3 v => ?_⟩
    obtain ⟨-, b1, b2⟩ := v
    have fin := aside_back hI a1 a2 w2 w3 b1 b2
    have g9 : h3 309 = h2 309 := b1 309 (by omega)
    rw [g9]
    refine ⟨fun q => ?_, fun q => ?_⟩
    · have hlt : k < (sP S).length := by omega
      have hm := w5 (sP S)[k] (by omega) (by
        rw [show min (k + 1) (sP S).length - 1 = k by omega]
        exact List.getElem?_eq_getElem hlt)
      obtain ⟨m1, m2, m3, m4⟩ := hm
      rw [m1, m2, m3, m4]
      unfold qChg
      rw [if_neg (by omega), Int.toNat_natCast, List.getElem?_eq_getElem hlt]
      simp only
      refine ⟨fun t0 => ⟨fun t1 => ⟨fun t2 => ?_, fun t2 => ?_⟩, fun t1 => ?_⟩, fun t0 => ?_⟩
      · rw [if_neg t0, if_neg t1, if_neg t2]; exact ⟨rfl, fin⟩
      · rw [if_neg t0, if_neg t1, if_pos t2]; exact ⟨rfl, fin⟩
      · rw [if_neg t0, if_pos t1]; exact ⟨rfl, fin⟩
      · rw [if_pos t0]; exact ⟨rfl, fin⟩
    · rw [none2 (by omega)]
      exact ⟨rfl, fin⟩
theorem d_Mo_missedAfter {h : ftH} {S : ftS} {P : List ftS} (hI : mcI h S P) {B : Int} (hB : B + 300 ≤ 1000000000) (hok : sOk B S) (hla : flI h S) {lim : Int} : ft_C k_Mo_missedAfter [.inr (.inr 309), .inl lim] h (fun r h' => r = some (.inl (qMA lim S)) ∧ wFr h h' ∧ mcI h' S P ∧ flI h' S) := by
  have hpl := sP_len hok
  refine ft_enter (n := 1) rfl (Nat.le_of_ble_eq_true rfl) rfl (b_Mo_missedAfter_0 ⟨fun c => ⟨_, c_Mo_laysAside, fun h1 hw => ?_⟩, fun c => ?_⟩)
  · obtain ⟨-, a1, a2⟩ := hw
    have hI1 : mcI h1 S P := mcI_fr hI (a1 310 (by omega)) (a1 311 (by omega)) (by rw [a1 309 (by omega)])
    have hla1 := flI_312 a1 hla
    unfold qMA
    rw [if_neg (fun q => q c)]
    refine ⟨fun d => ⟨_, d_Mo_missedNow hI1 hok, fun z h2 _ v => ?_⟩, fun d => ?_⟩
    · obtain ⟨v1, rfl⟩ := v
      refine ⟨_, c_Mo_comesBack, fun h3 v => ?_⟩
      obtain ⟨-, b1, b2⟩ := v
      rw [v1, if_pos (by omega)]
      refine ⟨rfl, ⟨fun c hc => by rw [b1 c (by omega), a1 c (by omega)], fun j hj => by rw [b1 309 (by omega), a1 309 (by omega)]⟩, mcI_520 hI (fun j hj => by rw [b2 j hj, a2 j hj]) (by rw [b1 311 (by omega), a1 311 (by omega)]) (by rw [b1 309 (by omega), a1 309 (by omega)]), ?_⟩
      rcases hla1 with t | t
      · exact Or.inl (by rw [b1 309 (by omega)]; exact t)
      · exact Or.inr (laI_fr (rFr_310 b1) t)
    · obtain ⟨k, rfl⟩ : ∃ k : Nat, lim = (k : Int) := ⟨lim.toNat, by omega⟩
      rw [if_neg (by omega), Int.toNat_natCast]
      refine ⟨_, c_Mo_syncs hI1 hB hok hla1 (lim := k) (n := min k (sP S).length) (by omega) rfl, fun z h2 _ v => ?_⟩
      obtain ⟨-, w2, w3, w4, -⟩ := v
      refine ⟨_, d_Mo_missedNow w4 (sN_ok hok (by omega)), fun z h4 _ v => ?_⟩
      obtain ⟨v1, rfl⟩ := v
      refine ⟨_, c_Mo_comesBack, fun h3 v => ?_⟩
      obtain ⟨-, b1, b2⟩ := v
      exact ⟨v1, aside_back hI a1 a2 w2 w3 b1 b2⟩
  · unfold qMA
    rw [if_pos c]
    exact ⟨rfl, wFr_rfl h, hI, hla⟩
theorem d_Mo_sync {h : ftH} {S : ftS} {P : List ftS} (hI : mcI h S P) {B : Int} (hB : B + 300 ≤ 1000000000) (hok : sOk B S) (hla : flI h S) {lim : Int} : ft_C k_Mo_sync [.inr (.inr 309), .inl lim] h (fun r h' => r = some (.inl (aSync lim S).1) ∧ (∀ c, (c < 310 ∧ c ≠ 309) ∨ (329 ≤ c ∧ c ≤ 332) → h' c = h c) ∧ (∀ j, 34 ≤ j → h' 309 j = h 309 j) ∧ (((aSync lim S).2 = none ∧ mcI h' S P ∧ flI h' S) ∨ ∃ S', (aSync lim S).2 = some S' ∧ flI h' S' ∧ mcI h' S' ((S :: P).take 8))) := by
  have hpl := sP_len hok
  refine ft_enter (n := 1) rfl (Nat.le_of_ble_eq_true rfl) rfl (b_Mo_sync_0 ⟨fun c => ⟨_, c_Mo_laysAside, fun h1 hw => ?_⟩, fun c => ?_⟩)
  · obtain ⟨-, a1, a2⟩ := hw
    have hI1 : mcI h1 S P := mcI_fr hI (a1 310 (by omega)) (a1 311 (by omega)) (by rw [a1 309 (by omega)])
    have hla1 := flI_312 a1 hla
    refine ⟨_, c_Mo_syncs hI1 hB hok hla1 (lim := 1) (n := min 1 (sP S).length) (by omega) rfl, fun z h2 _ v => ?_⟩
    obtain ⟨w1, w2, w3, -, -⟩ := v
    have hz := injI w1
    subst hz
    refine ⟨_, c_Mo_comesBack, fun h3 v => ?_⟩
    obtain ⟨-, b1, b2⟩ := v
    obtain ⟨f1, f2, f3⟩ := aside_back hI a1 a2 w2 w3 b1 b2
    obtain ⟨k, rfl⟩ : ∃ k : Nat, lim = (k : Int) := ⟨lim.toNat, by omega⟩
    refine ⟨fun q => ⟨_, d_Mo_keepsPast f2, fun h4 v => ?_⟩, fun q => ?_⟩
    · obtain ⟨-, g1, g2, g3, g4⟩ := v
      have e9 : aSync (k : Int) S = (((min k (sP S).length : Nat) : Int), some (sN S (min k (sP S).length))) := by
        unfold aSync sN
        rw [if_neg (fun q => q c), if_neg (by omega), Int.toNat_natCast]
      rw [e9]
      refine ⟨_, c_Mo_syncs g4 hB hok (Or.inl g3) (lim := k) (n := min k (sP S).length) (by omega) rfl, fun z h5 _ v => ?_⟩
      obtain ⟨y1, y2, y3, y4, -⟩ := v
      exact ⟨y1, fun c hc => by rw [y2.1 c (by omega), g1 c (by omega) (by omega), f1.1 c (by omega)], fun j hj => by rw [y2.2 j (by omega), g2 j (by omega) (by omega), f1.2 j (by omega)], Or.inr ⟨_, rfl, Or.inr (laI_S rfl rfl rfl y3.2.1), y4⟩⟩
    · have e9 : aSync (k : Int) S = (-2, none) := by
        unfold aSync
        rw [if_neg (fun q => q c), if_pos (by omega)]
      rw [e9]
      exact ⟨rfl, fun c hc => f1.1 c (by omega), fun j hj => f1.2 j (by omega), Or.inl ⟨rfl, f2, f3⟩⟩
  · have e9 : aSync lim S = (-1, none) := by unfold aSync; rw [if_pos c]
    rw [e9]
    exact ⟨rfl, fun _ _ => rfl, fun _ _ => rfl, Or.inl ⟨rfl, hI, hla⟩⟩
