/-! REPORTS: the target laid out (the text's length is left alone), and the reports of the reference -/
theorem e_Mo_laysTarget {h : ftH} {S : ftS} {P : List ftS} (hI : mcI h S P) {B : Int} (hok : sOk B S) (hla : flI h S) : ft_C k_Mo_laysTarget [.inr (.inr 309)] h (fun r h' => r = none ∧ qFr h h' ∧ (laI h' S ∧ h' 309 20 ≠ 0) ∧ tgI h' (tOf S) ∧ (∀ c, c = 312 ∨ c = 329 ∨ c = 332 → h' c = h c) ∧ h' 309 32 = h 309 32) := by
  have hEo := eOf_ok hok
  refine ft_enter (n := 1) rfl (Nat.le_of_ble_eq_true rfl) rfl (b_Mo_laysTarget_0 ⟨_, d_Mo_laysAll hI hok hla, fun h1 hw h2 e2 => ?_⟩)
  obtain ⟨-, u1, u2, u3, u4⟩ := hw
  have h20 : h1 309 20 ≠ 0 := by
    by_cases c : h 309 20 = 0
    · rw [u3 c]; omega
    · rw [u4 c]; exact c
  have r2 : ∀ c, c ≠ 309 → h2 c = h1 c := fun c hc => by rw [e2]; exact ft_hs_ne c hc
  have r2j : ∀ j, j ≠ 26 → h2 309 j = h1 309 j := fun j hj => by rw [e2]; exact ft_hs_j hj
  have loop : ∀ (m i : Nat) (g : ftH), i + m = (eOf S).length → (∀ c, c ≠ 309 → (c < 326 ∨ 329 ≤ c) → g c = h1 c) → (∀ j, j ≠ 26 → g 309 j = h1 309 j) → tgI g (tgL (eOf S) (bB S) i) → (tgL (eOf S) (bB S) i).length ≤ i → ft_V k_Mo_laysTarget 11 [some (.inr (.inr 309)), some (.inl (i : Int))] [] g (fun r h' => r = none ∧ qFr h h' ∧ (laI h' S ∧ h' 309 20 ≠ 0) ∧ tgI h' (tOf S) ∧ (∀ c, c = 312 ∨ c = 329 ∨ c = 332 → h' c = h c) ∧ h' 309 32 = h 309 32) := by
    intro m
    induction m with
    | zero =>
      intro i g hm f fj ht hle
      have ei : i = (eOf S).length := by omega
      subst ei
      refine b_Mo_laysTarget_11 ⟨fun _ => ⟨rfl, ⟨fun c hc => by rw [f c (by omega) (by omega), u1.1 c (by omega) (by omega)], fun j hj => by rw [fj j (by omega), u1.2 j (by omega) (by omega) (by omega) (by omega) (by omega)]⟩, ⟨⟨enI_fr u2.1 (fj 14 (by omega)) (f 318 (by omega) (by omega)) (f 319 (by omega) (by omega)) (f 320 (by omega) (by omega)), fun i hi => by rw [f 321 (by omega) (by omega), f 322 (by omega) (by omega), f 325 (by omega) (by omega)]; exact u2.2.1 i hi, by rw [fj 21 (by omega)]; exact u2.2.2⟩, by rw [fj 20 (by omega)]; exact h20⟩, ht, fun c hc => by rw [f c (by omega) (by omega), u1.1 c (by omega) (by omega)], by rw [fj 32 (by omega), u1.2 32 (by omega) (by omega) (by omega) (by omega) (by omega)]⟩, fun c => absurd (by rw [fj 14 (by omega), u2.1.1]; omega) c⟩
    | succ m ih =>
      intro i g hm f fj ht hle
      have hiE : i < (eOf S).length := by omega
      have ha := enI_at u2.1 hiE
      have hd := u2.2.1 i hiE
      have hr := parI_rng (eOf S) i
      have hz := u2.1.2.2 i hiE
      have go : ∀ (x : Int) (h3 h4 h5 h6 : ftH), tgO (eOf S) (bB S) i = [(kAt (eOf S) i, x)] → h3 = ft_hs g 326 (tgL (eOf S) (bB S) i).length (h1 318 i) → h4 = ft_hs h3 327 (tgL (eOf S) (bB S) i).length (h1 319 i) → h5 = ft_hs h4 328 (tgL (eOf S) (bB S) i).length x → h6 = ft_hs h5 309 26 (((tgL (eOf S) (bB S) i).length + 1 : Nat) : Int) → ft_V k_Mo_laysTarget 11 [some (.inr (.inr 309)), some (.inl ((i + 1 : Nat) : Int))] [] h6 (fun r h' => r = none ∧ qFr h h' ∧ (laI h' S ∧ h' 309 20 ≠ 0) ∧ tgI h' (tOf S) ∧ (∀ c, c = 312 ∨ c = 329 ∨ c = 332 → h' c = h c) ∧ h' 309 32 = h 309 32) := by
        intro x h3 h4 h5 h6 hx e3 e4 e5 e6
        have y6 : h6 326 = h3 326 := by rw [e6, ft_hs_ne _ (by omega), e5, ft_hs_ne _ (by omega), e4, ft_hs_ne _ (by omega)]
        have y7 : h6 327 = h4 327 := by rw [e6, ft_hs_ne _ (by omega), e5, ft_hs_ne _ (by omega)]
        have y8 : h6 328 = h5 328 := by rw [e6, ft_hs_ne _ (by omega)]
        refine ih (i + 1) h6 (by omega) (fun c c1 c2 => by rw [e6, ft_hs_ne c c1, e5, ft_hs_ne c (by omega), e4, ft_hs_ne c (by omega), e3, ft_hs_ne c (by omega), f c c1 c2]) (fun j hj => by rw [e6, ft_hs_j hj, e5, ft_hs_ne 309 (by omega), e4, ft_hs_ne 309 (by omega), e3, ft_hs_ne 309 (by omega), fj j hj]) ?_ (by rw [tgL_succ, hx, List.length_append, List.length_singleton]; omega)
        rw [tgL_succ, hx, ha.1]
        refine tgI_snoc ht hz (by rw [e6]; exact ft_hs_same) (fun j hj => ?_) ⟨by rw [y6, e3]; exact ft_hs_same, by rw [y7, e4]; exact ft_hs_same, by rw [y8, e5]; exact ft_hs_same⟩
        rw [y6, y7, y8, e3, ft_hs_j hj, e4, ft_hs_j hj, e5, ft_hs_j hj, e3, ft_hs_ne 327 (by omega), e4, ft_hs_ne 328 (by omega), e3, ft_hs_ne 328 (by omega)]
        exact ⟨rfl, rfl, rfl⟩
      have skip : tgO (eOf S) (bB S) i = [] → ft_V k_Mo_laysTarget 11 [some (.inr (.inr 309)), some (.inl ((i + 1 : Nat) : Int))] [] g (fun r h' => r = none ∧ qFr h h' ∧ (laI h' S ∧ h' 309 20 ≠ 0) ∧ tgI h' (tOf S) ∧ (∀ c, c = 312 ∨ c = 329 ∨ c = 332 → h' c = h c) ∧ h' 309 32 = h 309 32) := fun hx => ih (i + 1) g (by omega) f fj (by rw [tgL_succ, hx, List.append_nil]; exact ht) (by rw [tgL_succ, hx, List.append_nil]; omega)
      have lay : (bB S).testBit (59 - i) = true ∨ tgO (eOf S) (bB S) i = [(kAt (eOf S) i, 16)] → ((0 ≤ (i : Int) ∧ (i : Int) < 64) ∧ ((0 ≤ g 309 26 ∧ g 309 26 < 64) ∧ (∀ h3 : ftH, h3 = ft_hs g 326 (g 309 26).toNat (g 318 i) → ((0 ≤ (i : Int) ∧ (i : Int) < 64) ∧ ((0 ≤ h3 309 26 ∧ h3 309 26 < 64) ∧ (∀ h4 : ftH, h4 = ft_hs h3 327 (h3 309 26).toNat (h3 319 i) → ((0 ≤ (i : Int) ∧ (i : Int) < 64) ∧ ((¬ (h4 325 i = 1) → ((0 ≤ h4 309 26 ∧ h4 309 26 < 64) ∧ (∀ h5 : ftH, h5 = ft_hs h4 328 (h4 309 26).toNat 16 → (∀ h6 : ftH, h6 = ft_hs h5 309 26 (ft_add (h5 309 26) 1) → ft_V k_Mo_laysTarget 11 [some (.inr (.inr 309)), some (.inl ((i + 1 : Nat) : Int))] [] h6 (fun r h' => r = none ∧ qFr h h' ∧ (laI h' S ∧ h' 309 20 ≠ 0) ∧ tgI h' (tOf S) ∧ (∀ c, c = 312 ∨ c = 329 ∨ c = 332 → h' c = h c) ∧ h' 309 32 = h 309 32))))) ∧ (h4 325 i = 1 → ((0 ≤ (i : Int) ∧ (i : Int) < 64) ∧ ((0 ≤ h4 309 26 ∧ h4 309 26 < 64) ∧ (∀ h5 : ftH, h5 = ft_hs h4 328 (h4 309 26).toNat (h4 320 i) → (∀ h6 : ftH, h6 = ft_hs h5 309 26 (ft_add (h5 309 26) 1) → ft_V k_Mo_laysTarget 11 [some (.inr (.inr 309)), some (.inl ((i + 1 : Nat) : Int))] [] h6 (fun r h' => r = none ∧ qFr h h' ∧ (laI h' S ∧ h' 309 20 ≠ 0) ∧ tgI h' (tOf S) ∧ (∀ c, c = 312 ∨ c = 329 ∨ c = 332 → h' c = h c) ∧ h' 309 32 = h 309 32)))))))))))))) := by
        intro hcase
        rw [ht.1, Int.toNat_natCast, f 318 (by omega) (by omega)]
        refine ⟨⟨by omega, by omega⟩, ⟨by omega, by omega⟩, fun h3 e3 => ?_⟩
        have q3 : ∀ c, c ≠ 326 → h3 c = g c := fun c hc => by rw [e3]; exact ft_hs_ne c hc
        rw [q3 309 (by omega), ht.1, Int.toNat_natCast, q3 319 (by omega), f 319 (by omega) (by omega)]
        refine ⟨⟨by omega, by omega⟩, ⟨by omega, by omega⟩, fun h4 e4 => ?_⟩
        have q4 : ∀ c, c ≠ 326 → c ≠ 327 → h4 c = g c := fun c c1 c2 => by rw [e4, ft_hs_ne c c2, q3 c c1]
        rw [q4 309 (by omega) (by omega), ht.1, Int.toNat_natCast, q4 325 (by omega) (by omega), f 325 (by omega) (by omega), hd.2.2, q4 320 (by omega) (by omega), f 320 (by omega) (by omega)]
        refine ⟨⟨by omega, by omega⟩, fun c => ⟨⟨by omega, by omega⟩, fun h5 e5 h6 e6 => ?_⟩, fun c => ⟨⟨by omega, by omega⟩, ⟨by omega, by omega⟩, fun h5 e5 h6 e6 => ?_⟩⟩
        · rw [e5, ft_hs_ne 309 (by omega), q4 309 (by omega) (by omega), ht.1, inc1 (by omega), ← e5] at e6
          refine go 16 h3 h4 h5 h6 ?_ e3 e4 e5 e6
          rcases hcase with q | q
          · exact absurd (if_pos q) c
          · exact q
        · rw [e5, ft_hs_ne 309 (by omega), q4 309 (by omega) (by omega), ht.1, inc1 (by omega), ← e5] at e6
          refine go (h1 320 i) h3 h4 h5 h6 ?_ e3 e4 e5 e6
          have hb : (bB S).testBit (59 - i) = true := by
            by_cases q : (bB S).testBit (59 - i) = true
            · exact q
            · rw [if_neg q] at c; omega
          unfold tgO
          rw [if_pos hb, ha.2.1]
      refine b_Mo_laysTarget_11 ⟨fun c => absurd c (by rw [fj 14 (by omega), u2.1.1]; omega), fun _ => ?_⟩
      rw [Int.toNat_natCast, inc1 (by omega)]
      refine ⟨⟨by omega, by omega⟩, fun c => lay ?_, fun c => ?_⟩
      · rw [f 325 (by omega) (by omega), hd.2.2] at c
        by_cases q : (bB S).testBit (59 - i) = true
        · exact Or.inl q
        · rw [if_neg q] at c; exact absurd rfl c
      · rw [f 325 (by omega) (by omega), hd.2.2] at c
        have nb : ¬ (bB S).testBit (59 - i) = true := fun q => by rw [if_pos q] at c; omega
        rw [f 321 (by omega) (by omega), hd.1]
        refine ⟨⟨by omega, by omega⟩, fun d => skip ?_, fun d => ?_⟩
        · unfold tgO upO at *
          rw [if_neg nb, if_neg (fun q => ?_)]
          rw [if_neg (by omega)] at d
          omega
        · have hp : 0 ≤ parI (eOf S) i := by
            unfold upO at d
            by_cases q : parI (eOf S) i < 0
            · rw [if_pos q] at d; exact absurd rfl d
            · omega
          have hup : upO (eOf S) i = (parI (eOf S) i).toNat := if_neg (by omega)
          have hd2 := (u2.2.1 (parI (eOf S) i).toNat (by omega)).2.2
          rw [hup, Int.toNat_natCast, f 325 (by omega) (by omega), hd2]
          refine ⟨⟨by omega, by omega⟩, ⟨by omega, by omega⟩, fun q => lay (Or.inr ?_), fun q => skip ?_⟩
          · have hb : (bB S).testBit (59 - (parI (eOf S) i).toNat) = true := by
              by_cases t : (bB S).testBit (59 - (parI (eOf S) i).toNat) = true
              · exact t
              · rw [if_neg t] at q; exact absurd rfl q
            unfold tgO
            rw [if_neg nb, if_pos ⟨hp, hb⟩]
          · unfold tgO
            rw [if_neg nb, if_neg (fun t => by rw [if_pos t.2] at q; omega)]
  exact loop (eOf S).length 0 h2 (by omega) (fun c c1 c2 => r2 c c1) r2j ⟨by rw [e2]; exact ft_hs_same, rfl, fun i hi => absurd hi (Nat.not_lt_zero i)⟩ (Nat.le_refl 0)
theorem laI_tx {h h' : ftH} {S : ftS} (f : mTf h h') (hl : laI h S) : laI h' S := by
  have q : ∀ c, c ≠ 309 → c ≠ 329 → h' c = h c := f.1
  refine ⟨enI_fr hl.1 (f.2 14 (by omega)) (q 318 (by omega) (by omega)) (q 319 (by omega) (by omega)) (q 320 (by omega) (by omega)), fun i hi => ?_, by rw [f.2 21 (by omega)]; exact hl.2.2⟩
  rw [q 321 (by omega) (by omega), q 322 (by omega) (by omega), q 325 (by omega) (by omega)]
  exact hl.2.1 i hi
theorem v_Mo_wr11 {h0 : ftH} {L : List (Int × Int)} (hn : h0 310 0 = (L.length : Int)) (hmx : L.length ≤ 60) (hl : ∀ i, i < L.length → L[i]? = some (64 * pUn (h0 310 (10 + 3 * i)) + h0 310 (11 + 3 * i), h0 310 (12 + 3 * i)) ∧ (0 ≤ h0 310 (11 + 3 * i) ∧ h0 310 (11 + 3 * i) ≤ 32) ∧ (0 ≤ h0 310 (12 + 3 * i) ∧ h0 310 (12 + 3 * i) ≤ 16)) {R : Option ftV → ftH → Prop} (hk : ∀ h', txI h' (prT L) → mTf h0 h' → ft_V k_Mo_writesReport 50 [some (.inr (.inr 309)), some (.inl 0), none] [] h' R) : ∀ (m i : Nat) (g : ftH), i + m = L.length → txI g (prT (L.take i)) → mTf h0 g → ft_V k_Mo_writesReport 11 [some (.inr (.inr 309)), some (.inl 0), some (.inl (i : Int))] [] g R := by
  have hb : ∀ q ∈ L, q.1 % 64 ≤ 32 ∧ q.2 ≤ 16 := fun q hq => by
    obtain ⟨i, hi⟩ := List.mem_iff_getElem?.mp hq
    obtain ⟨h1, h2, h3⟩ := hl i (List.getElem?_eq_some_iff.mp hi).1
    rw [hi] at h1
    cases h1
    exact ⟨by simp only; omega, h3.2⟩
  intro m
  induction m with
  | zero =>
    intro i g hm hr f
    have k := hk g (by rw [← List.take_of_length_le (show L.length ≤ i by omega)]; exact hr) f
    refine b_Mo_writesReport_11 ⟨fun _ => k, fun c => absurd (by rw [f.1 310 (by omega) (by omega), hn]; omega) c⟩
  | succ m ih =>
    intro i g hm hr f
    obtain ⟨h1, h2, h3⟩ := hl i (by omega)
    have hle := prT_le hb i
    refine b_Mo_writesReport_11 ⟨fun c => absurd c (by rw [f.1 310 (by omega) (by omega), hn]; omega), fun _ => ⟨fun c => absurd rfl c, fun _ => ?_⟩⟩
    rw [Int.toNat_natCast, f.1 310 (by omega) (by omega), inc1 (by omega)]
    refine ⟨⟨by omega, by omega⟩, ⟨by omega, by omega⟩, ⟨by omega, by omega⟩, _, c_Mo_writesLine hr (by omega) h2 h3, fun g1 w => ih (i + 1) g1 (by omega) ?_ (mTf_tr f w.2.2)⟩
    rw [prT_take h1]
    have e1 : (64 * pUn (h0 310 (10 + 3 * i)) + h0 310 (11 + 3 * i)) / 64 = pUn (h0 310 (10 + 3 * i)) := by omega
    have e2 : (64 * pUn (h0 310 (10 + 3 * i)) + h0 310 (11 + 3 * i)) % 64 = h0 310 (11 + 3 * i) := by omega
    simp only [e1, e2]
    exact w.2.1
theorem v_Mo_wr52 {h0 : ftH} {L : List (Int × Int)} (hn : h0 309 14 = (L.length : Int)) (hmx : L.length ≤ 60) (hl : ∀ i, i < L.length → L[i]? = some (64 * pUn (h0 318 i) + h0 319 i, h0 320 i) ∧ (0 ≤ h0 319 i ∧ h0 319 i ≤ 32) ∧ (0 ≤ h0 320 i ∧ h0 320 i ≤ 16)) {R : Option ftV → ftH → Prop} (hk : ∀ h', txI h' (prT L) → mTf h0 h' → ft_V k_Mo_writesReport 93 [some (.inr (.inr 309)), some (.inl 1), none] [] h' R) : ∀ (m i : Nat) (g : ftH), i + m = L.length → txI g (prT (L.take i)) → mTf h0 g → ft_V k_Mo_writesReport 52 [some (.inr (.inr 309)), some (.inl 1), some (.inl (i : Int))] [] g R := by
  have hb : ∀ q ∈ L, q.1 % 64 ≤ 32 ∧ q.2 ≤ 16 := fun q hq => by
    obtain ⟨i, hi⟩ := List.mem_iff_getElem?.mp hq
    obtain ⟨h1, h2, h3⟩ := hl i (List.getElem?_eq_some_iff.mp hi).1
    rw [hi] at h1
    cases h1
    exact ⟨by simp only; omega, h3.2⟩
  intro m
  induction m with
  | zero =>
    intro i g hm hr f
    have k := hk g (by rw [← List.take_of_length_le (show L.length ≤ i by omega)]; exact hr) f
    refine b_Mo_writesReport_52 ⟨fun _ => k, fun c => absurd (by rw [f.2 14 (by omega), hn]; omega) c⟩
  | succ m ih =>
    intro i g hm hr f
    obtain ⟨h1, h2, h3⟩ := hl i (by omega)
    have hle := prT_le hb i
    refine b_Mo_writesReport_52 ⟨fun c => absurd c (by rw [f.2 14 (by omega), hn]; omega), fun _ => ⟨fun c => absurd rfl c, fun _ => ?_⟩⟩
    rw [Int.toNat_natCast, f.1 318 (by omega) (by omega), f.1 319 (by omega) (by omega), f.1 320 (by omega) (by omega), inc1 (by omega)]
    refine ⟨⟨by omega, by omega⟩, ⟨by omega, by omega⟩, ⟨by omega, by omega⟩, _, c_Mo_writesLine hr (by omega) h2 h3, fun g1 w => ih (i + 1) g1 (by omega) ?_ (mTf_tr f w.2.2)⟩
    rw [prT_take h1]
    have e1 : (64 * pUn (h0 318 i) + h0 319 i) / 64 = pUn (h0 318 i) := by omega
    have e2 : (64 * pUn (h0 318 i) + h0 319 i) % 64 = h0 319 i := by omega
    simp only [e1, e2]
    exact w.2.1
theorem v_Mo_wr95 {h0 : ftH} {L : List (Int × Int)} (hn : h0 309 26 = (L.length : Int)) (hmx : L.length ≤ 60) (hl : ∀ i, i < L.length → L[i]? = some (64 * pUn (h0 326 i) + h0 327 i, h0 328 i) ∧ (0 ≤ h0 327 i ∧ h0 327 i ≤ 32) ∧ (0 ≤ h0 328 i ∧ h0 328 i ≤ 16)) {R : Option ftV → ftH → Prop} (hk : ∀ h', txI h' (prT L) → mTf h0 h' → ft_V k_Mo_writesReport 136 [some (.inr (.inr 309)), some (.inl 2), none] [] h' R) : ∀ (m i : Nat) (g : ftH), i + m = L.length → txI g (prT (L.take i)) → mTf h0 g → ft_V k_Mo_writesReport 95 [some (.inr (.inr 309)), some (.inl 2), some (.inl (i : Int))] [] g R := by
  have hb : ∀ q ∈ L, q.1 % 64 ≤ 32 ∧ q.2 ≤ 16 := fun q hq => by
    obtain ⟨i, hi⟩ := List.mem_iff_getElem?.mp hq
    obtain ⟨h1, h2, h3⟩ := hl i (List.getElem?_eq_some_iff.mp hi).1
    rw [hi] at h1
    cases h1
    exact ⟨by simp only; omega, h3.2⟩
  intro m
  induction m with
  | zero =>
    intro i g hm hr f
    have k := hk g (by rw [← List.take_of_length_le (show L.length ≤ i by omega)]; exact hr) f
    refine b_Mo_writesReport_95 ⟨fun _ => k, fun c => absurd (by rw [f.2 26 (by omega), hn]; omega) c⟩
  | succ m ih =>
    intro i g hm hr f
    obtain ⟨h1, h2, h3⟩ := hl i (by omega)
    have hle := prT_le hb i
    refine b_Mo_writesReport_95 ⟨fun c => absurd c (by rw [f.2 26 (by omega), hn]; omega), fun _ => ⟨fun c => absurd rfl c, fun _ => ?_⟩⟩
    rw [Int.toNat_natCast, f.1 326 (by omega) (by omega), f.1 327 (by omega) (by omega), f.1 328 (by omega) (by omega), inc1 (by omega)]
    refine ⟨⟨by omega, by omega⟩, ⟨by omega, by omega⟩, ⟨by omega, by omega⟩, _, c_Mo_writesLine hr (by omega) h2 h3, fun g1 w => ih (i + 1) g1 (by omega) ?_ (mTf_tr f w.2.2)⟩
    rw [prT_take h1]
    have e1 : (64 * pUn (h0 326 i) + h0 327 i) / 64 = pUn (h0 326 i) := by omega
    have e2 : (64 * pUn (h0 326 i) + h0 327 i) % 64 = h0 327 i := by omega
    simp only [e1, e2]
    exact w.2.1
theorem v_Mo_wr138 {h0 : ftH} {L : List (Int × Int)} (hn : h0 310 2 = (L.length : Int)) (hmx : L.length ≤ 80) (hl : ∀ i, i < L.length → L[i]? = some (64 * pUn (h0 310 (270 + 3 * i)) + h0 310 (271 + 3 * i), h0 310 (272 + 3 * i)) ∧ (0 ≤ h0 310 (271 + 3 * i) ∧ h0 310 (271 + 3 * i) ≤ 32) ∧ (0 ≤ h0 310 (272 + 3 * i) ∧ h0 310 (272 + 3 * i) ≤ 16)) {R : Option ftV → ftH → Prop} (hk : ∀ h', txI h' (prT L) → mTf h0 h' → ft_V k_Mo_writesReport 178 [some (.inr (.inr 309)), some (.inl 3), none] [] h' R) : ∀ (m i : Nat) (g : ftH), i + m = L.length → txI g (prT (L.take i)) → mTf h0 g → ft_V k_Mo_writesReport 138 [some (.inr (.inr 309)), some (.inl 3), some (.inl (i : Int))] [] g R := by
  have hb : ∀ q ∈ L, q.1 % 64 ≤ 32 ∧ q.2 ≤ 16 := fun q hq => by
    obtain ⟨i, hi⟩ := List.mem_iff_getElem?.mp hq
    obtain ⟨h1, h2, h3⟩ := hl i (List.getElem?_eq_some_iff.mp hi).1
    rw [hi] at h1
    cases h1
    exact ⟨by simp only; omega, h3.2⟩
  intro m
  induction m with
  | zero =>
    intro i g hm hr f
    have k := hk g (by rw [← List.take_of_length_le (show L.length ≤ i by omega)]; exact hr) f
    refine b_Mo_writesReport_138 ⟨fun _ => k, fun c => absurd (by rw [f.1 310 (by omega) (by omega), hn]; omega) c⟩
  | succ m ih =>
    intro i g hm hr f
    obtain ⟨h1, h2, h3⟩ := hl i (by omega)
    have hle := prT_le hb i
    refine b_Mo_writesReport_138 ⟨fun c => absurd c (by rw [f.1 310 (by omega) (by omega), hn]; omega), fun _ => ⟨fun c => absurd rfl c, fun _ => ?_⟩⟩
    rw [Int.toNat_natCast, f.1 310 (by omega) (by omega), inc1 (by omega)]
    refine ⟨⟨by omega, by omega⟩, ⟨by omega, by omega⟩, ⟨by omega, by omega⟩, _, c_Mo_writesLine hr (by omega) h2 h3, fun g1 w => ih (i + 1) g1 (by omega) ?_ (mTf_tr f w.2.2)⟩
    rw [prT_take h1]
    have e1 : (64 * pUn (h0 310 (270 + 3 * i)) + h0 310 (271 + 3 * i)) / 64 = pUn (h0 310 (270 + 3 * i)) := by omega
    have e2 : (64 * pUn (h0 310 (270 + 3 * i)) + h0 310 (271 + 3 * i)) % 64 = h0 310 (271 + 3 * i) := by omega
    simp only [e1, e2]
    exact w.2.1
theorem v_Mo_wr180 {h0 : ftH} {L : List (Int × Int)} (hn : h0 310 1 = (L.length : Int)) (hmx : L.length ≤ 40) (hl : ∀ i, i < L.length → L[i]? = some (pUn (h0 310 (190 + 2 * i)), h0 310 (191 + 2 * i)) ∧ (0 ≤ h0 310 (191 + 2 * i) ∧ h0 310 (191 + 2 * i) ≤ 999999)) {R : Option ftV → ftH → Prop} (hk : ∀ h', txI h' (prG L) → mTf h0 h' → R none h') : ∀ (m i : Nat) (g : ftH), i + m = L.length → txI g (prG (L.take i)) → mTf h0 g → ft_V k_Mo_writesReport 180 [some (.inr (.inr 309)), some (.inl 4), some (.inl (i : Int))] [] g R := by
  intro m
  induction m with
  | zero =>
    intro i g hm hr f
    have k := hk g (by rw [← List.take_of_length_le (show L.length ≤ i by omega)]; exact hr) f
    refine b_Mo_writesReport_180 ⟨fun _ => k, fun c => absurd (by rw [f.1 310 (by omega) (by omega), hn]; omega) c⟩
  | succ m ih =>
    intro i g hm hr f
    obtain ⟨h1, h2⟩ := hl i (by omega)
    have hle := prG_le L i
    have l1 := aTx_len (pUn (h0 310 (190 + 2 * i)))
    have l2 := tp_le (h0 310 (191 + 2 * i))
    refine fv_wf (fun hw => b_Mo_writesReport_180 ⟨fun c => absurd c (by rw [f.1 310 (by omega) (by omega), hn]; omega), fun _ => ⟨fun c => absurd rfl c, fun _ => ?_⟩⟩)
    have hv : ft_in (g 310 (190 + 2 * i)) := hw 310 _
    rw [Int.toNat_natCast, f.1 310 (by omega) (by omega), inc1 (by omega)]
    rw [f.1 310 (by omega) (by omega)] at hv
    refine ⟨⟨by omega, by omega⟩, _, c_Mo_writesAddress hv hr (by omega), fun g1 w1 => ⟨_, c_Mo_writesSign w1.2.1 (by simp only [List.length_append]; omega), fun g2 w2 => ?_⟩⟩
    have f2 : mTf h0 g2 := mTf_tr f (mTf_tr w1.2.2 w2.2.2)
    rw [f2.1 310 (by omega) (by omega)]
    refine ⟨⟨by omega, by omega⟩, _, c_Mo_writesNumber h2 w2.2.1 (by simp only [List.length_append, List.length_singleton]; omega), fun g3 w3 => ⟨_, c_Mo_writesSign w3.2.1 (by simp only [List.length_append, List.length_singleton, nTx_len]; omega), fun g4 w4 => ih (i + 1) g4 (by omega) ?_ (mTf_tr f2 (mTf_tr w3.2.2 w4.2.2))⟩⟩
    rw [prG_take h1]
    have := w4.2.1
    unfold lnG
    simp only [List.append_assoc] at this ⊢
    exact this
noncomputable def rpT (k : Int) (S : ftS) : List Int := if k = 0 then prT S.2.1 else if k = 1 then prT (eOf S) else if k = 2 then prT (tOf S) else if k = 3 then prT S.2.2.1 else prG S.2.2.2.1
theorem c_Mo_writesReport {h : ftH} {S : ftS} {P : List ftS} (hI : mcI h S P) {B : Int} (hok : sOk B S) (hla : flI h S) {k : Int} (hk : 0 ≤ k ∧ k ≤ 4) : ft_C k_Mo_writesReport [.inr (.inr 309), .inl k] h (fun r h' => r = none ∧ qFr h h' ∧ flI h' S ∧ txI h' (rpT k S)) := by
  have hEo := eOf_ok hok
  have hTo := tOf_ok hok
  refine ft_enter (n := 1) rfl (Nat.le_of_ble_eq_true rfl) rfl (b_Mo_writesReport_0 (fun h1 e1 => ?_))
  have q1 : qFr h h1 := ⟨fun c hc => by rw [e1, ft_hs_ne c (by omega)], fun j hj => by rw [e1, ft_hs_j (by omega)]⟩
  have m1 : mTf h h1 := ⟨fun c c1 c2 => by rw [e1, ft_hs_ne c c1], fun j hj => by rw [e1, ft_hs_j hj]⟩
  have fl1 : flI h1 S := by
    rcases hla with q | q
    · exact Or.inl (by rw [m1.2 20 (by omega)]; exact q)
    · exact Or.inr (laI_tx m1 q)
  refine ⟨_, e_Mo_laysTarget (qFr_mc q1 hI) hok fl1, fun h2 w => ?_⟩
  obtain ⟨-, q2, ⟨la2, n2⟩, tg2, -, t2⟩ := w
  have hI2 := qFr_mc q2 (qFr_mc q1 hI)
  obtain ⟨e0, e1', e2', e3', e4'⟩ := mc_eq hI2
  obtain ⟨n0, n1, n3⟩ := mc_len hI2
  obtain ⟨z1, z2, z3, z4, z5⟩ := ft_mz_0.mp hI2.1.1
  have x2 : txI h2 [] := ⟨by rw [t2, e1, ft_hs_same]; rfl, fun i hi => absurd hi (Nat.not_lt_zero i)⟩
  have mr : mTf h2 h2 := ⟨fun _ _ _ => rfl, fun _ _ => rfl⟩
  have fin : ∀ h', txI h' (rpT k S) → mTf h2 h' → ((none : Option ftV) = none ∧ qFr h h' ∧ flI h' S ∧ txI h' (rpT k S)) := fun h' a f => ⟨rfl, qFr_trans q1 (qFr_trans q2 ⟨fun c hc => f.1 c (by omega) (by omega), fun j hj => f.2 j (by omega)⟩), Or.inr (laI_tx f la2), a⟩
  have sk11 : ∀ (g : ftH) (R : Option ftV → ftH → Prop), k ≠ 0 → ft_V k_Mo_writesReport 50 [some (.inr (.inr 309)), some (.inl k), none] [] g R → ft_V k_Mo_writesReport 11 [some (.inr (.inr 309)), some (.inl k), some (.inl 0)] [] g R := fun g R c w => b_Mo_writesReport_11 ⟨fun _ => w, fun _ => ⟨fun _ => w, fun d => absurd d c⟩⟩
  have sk50 : ∀ (g : ftH) (R : Option ftV → ftH → Prop), k ≠ 1 → ft_V k_Mo_writesReport 93 [some (.inr (.inr 309)), some (.inl k), none] [] g R → ft_V k_Mo_writesReport 50 [some (.inr (.inr 309)), some (.inl k), none] [] g R := fun g R c w => b_Mo_writesReport_50 (b_Mo_writesReport_52 ⟨fun _ => w, fun _ => ⟨fun _ => w, fun d => absurd d c⟩⟩)
  have sk93 : ∀ (g : ftH) (R : Option ftV → ftH → Prop), k ≠ 2 → ft_V k_Mo_writesReport 136 [some (.inr (.inr 309)), some (.inl k), none] [] g R → ft_V k_Mo_writesReport 93 [some (.inr (.inr 309)), some (.inl k), none] [] g R := fun g R c w => b_Mo_writesReport_93 (b_Mo_writesReport_95 ⟨fun _ => w, fun _ => ⟨fun _ => w, fun d => absurd d c⟩⟩)
  have sk136 : ∀ (g : ftH) (R : Option ftV → ftH → Prop), k ≠ 3 → ft_V k_Mo_writesReport 178 [some (.inr (.inr 309)), some (.inl k), none] [] g R → ft_V k_Mo_writesReport 136 [some (.inr (.inr 309)), some (.inl k), none] [] g R := fun g R c w => b_Mo_writesReport_136 (b_Mo_writesReport_138 ⟨fun _ => w, fun _ => ⟨fun _ => w, fun d => absurd d c⟩⟩)
  have sk178 : ∀ (g : ftH) (R : Option ftV → ftH → Prop), k ≠ 4 → R none g → ft_V k_Mo_writesReport 178 [some (.inr (.inr 309)), some (.inl k), none] [] g R := fun g R c w => b_Mo_writesReport_178 (b_Mo_writesReport_180 ⟨fun _ => w, fun _ => ⟨fun _ => w, fun d => absurd d c⟩⟩)
  by_cases k0 : k = 0
  · have en : rpT k S = prT S.2.1 := by unfold rpT; rw [if_pos k0]
    rw [en] at fin ⊢
    subst k0
    refine v_Mo_wr11 (L := S.2.1) n0.symm hok.2.1.2.2 (fun i hi => ?_) (fun h' a f => sk50 h' _ (by omega) (sk93 h' _ (by omega) (sk136 h' _ (by omega) (sk178 h' _ (by omega) (fin h' a f))))) S.2.1.length 0 h2 (by omega) x2 mr
    have g := ml_at e1' (i := i) (by omega)
    have hv := (hok.2.1.1.1 _ (List.mem_of_getElem? g)).2
    exact ⟨by rw [g, show 10 + 3 * i + 1 = 11 + 3 * i by omega, show 10 + 3 * i + 2 = 12 + 3 * i by omega], by rw [show 11 + 3 * i = 10 + 3 * i + 1 by omega]; exact z4 i (by omega), by rw [show 12 + 3 * i = 10 + 3 * i + 2 by omega]; exact hv⟩
  refine sk11 h2 _ k0 ?_
  by_cases k1 : k = 1
  · have en : rpT k S = prT (eOf S) := by unfold rpT; rw [if_neg k0, if_pos k1]
    rw [en] at fin ⊢
    subst k1
    refine b_Mo_writesReport_50 (v_Mo_wr52 (L := eOf S) la2.1.1 hEo.2.2 (fun i hi => ?_) (fun h' a f => sk93 h' _ (by omega) (sk136 h' _ (by omega) (sk178 h' _ (by omega) (fin h' a f)))) (eOf S).length 0 h2 (by omega) x2 mr)
    have ha := enI_at la2.1 hi
    have hv := hEo.2.1 _ (kAt_in hi)
    simp only at hv
    rw [ha.2.1] at hv
    exact ⟨by rw [kAt_get hi, ha.1, ha.2.1], la2.1.2.2 i hi, by omega, by omega⟩
  refine sk50 h2 _ k1 ?_
  by_cases k2 : k = 2
  · have en : rpT k S = prT (tOf S) := by unfold rpT; rw [if_neg k0, if_neg k1, if_pos k2]
    rw [en] at fin ⊢
    subst k2
    refine b_Mo_writesReport_93 (v_Mo_wr95 (L := tOf S) tg2.1 hTo.2 (fun i hi => ?_) (fun h' a f => sk136 h' _ (by omega) (sk178 h' _ (by omega) (fin h' a f))) (tOf S).length 0 h2 (by omega) x2 mr)
    have ha := tgI_at tg2 hi
    have hv := (hTo.1.1 _ (kAt_in hi)).2
    simp only at hv
    rw [ha.2.1] at hv
    exact ⟨by rw [kAt_get hi, ha.1, ha.2.1], tg2.2.2 i hi, by omega, by omega⟩
  refine sk93 h2 _ k2 ?_
  by_cases k3 : k = 3
  · have en : rpT k S = prT S.2.2.1 := by unfold rpT; rw [if_neg k0, if_neg k1, if_neg k2, if_pos k3]
    rw [en] at fin ⊢
    subst k3
    have hc := hok.1
    have hh := hok.2.2.1.2
    refine b_Mo_writesReport_136 (v_Mo_wr138 (L := S.2.2.1) n1.symm (by omega) (fun i hi => ?_) (fun h' a f => sk178 h' _ (by omega) (fin h' a f)) S.2.2.1.length 0 h2 (by omega) x2 mr)
    have g := ml_at e2' (i := i) (by omega)
    have hv := (hok.2.2.1.1.1 _ (List.mem_of_getElem? g)).2
    exact ⟨by rw [g, show 270 + 3 * i + 1 = 271 + 3 * i by omega, show 270 + 3 * i + 2 = 272 + 3 * i by omega], by rw [show 271 + 3 * i = 270 + 3 * i + 1 by omega]; exact z5 i (by omega), by rw [show 272 + 3 * i = 270 + 3 * i + 2 by omega]; exact hv⟩
  refine sk136 h2 _ k3 ?_
  have k4 : k = 4 := by omega
  have en : rpT k S = prG S.2.2.2.1 := by unfold rpT; rw [if_neg k0, if_neg k1, if_neg k2, if_neg k3]
  rw [en] at fin ⊢
  subst k4
  refine b_Mo_writesReport_178 (v_Mo_wr180 (L := S.2.2.2.1) n3.symm hok.2.2.2.1.1 (fun i hi => ?_) fin S.2.2.2.1.length 0 h2 (by omega) x2 mr)
  have g := gl_at e3' (i := i) (by omega)
  have hv := (hok.2.2.2.1.2 _ (List.mem_of_getElem? g)).2
  simp only at hv
  rw [show 191 + 2 * i = 190 + 2 * i + 1 by omega]
  exact ⟨g, by omega, by omega⟩
noncomputable def qRL (k : Int) (S : ftS) : Int := if 0 ≤ k ∧ k ≤ 4 then ((rpT k S).length : Int) else -1
noncomputable def qRB (k i : Int) (S : ftS) : Int := if (0 ≤ k ∧ k ≤ 4) ∧ 0 ≤ i then (if i < ((rpT k S).length : Int) then (rpT k S).getD i.toNat 0 else -2) else -1
theorem d_Mo_reportLength {h : ftH} {S : ftS} {P : List ftS} (hI : mcI h S P) {B : Int} (hok : sOk B S) (hla : flI h S) {k : Int} : ft_C k_Mo_reportLength [.inr (.inr 309), .inl k] h (fun r h' => r = some (.inl (qRL k S)) ∧ qFr h h' ∧ flI h' S) := by
  refine ft_enter (n := 0) rfl (Nat.le_of_ble_eq_true rfl) rfl (b_Mo_reportLength_0 ⟨fun c => ⟨_, c_Mo_writesReport hI hok hla c, fun h1 w => ?_⟩, fun c => ?_⟩)
  · unfold qRL
    rw [if_pos c, w.2.2.2.1]
    exact ⟨rfl, w.2.1, w.2.2.1⟩
  · unfold qRL
    rw [if_neg c]
    exact ⟨rfl, qFr_refl h, hla⟩
theorem sqI_at {h : ftH} {c : Nat} {X : List Int} (hX : sqI h c X) {i : Nat} (hi : i < X.length) : X.getD i 0 = h c i := by
  rw [List.getD_eq_getElem?_getD, hX i hi]
  rfl
theorem rpT_len {B : Int} {S : ftS} (hok : sOk B S) (k : Int) : (rpT k S).length ≤ 1760 := by
  have hb : ∀ L : List (Int × Int), lOk L → ∀ q ∈ L, q.1 % 64 ≤ 32 ∧ q.2 ≤ 16 := fun L hL q hq => ⟨(hL.1 q hq).1.2.1, (hL.1 q hq).2.2⟩
  have hEo := eOf_ok hok
  have hTo := tOf_ok hok
  have hc := hok.1
  have hh := hok.2.2.1.2
  have h0 := prT_len _ (hb _ hok.2.1.1)
  have h1 := prT_len _ (hb _ hEo.1)
  have h2 := prT_len _ (hb _ hTo.1)
  have h3 := prT_len _ (hb _ hok.2.2.1.1)
  have h4 := prG_len S.2.2.2.1
  have g0 := hok.2.1.2.2
  have g4 := hok.2.2.2.1.1
  unfold rpT
  (repeat' split) <;> omega
theorem d_Mo_reportByte {h : ftH} {S : ftS} {P : List ftS} (hI : mcI h S P) {B : Int} (hok : sOk B S) (hla : flI h S) {k i : Int} : ft_C k_Mo_reportByte [.inr (.inr 309), .inl k, .inl i] h (fun r h' => r = some (.inl (qRB k i S)) ∧ qFr h h' ∧ flI h' S) := by
  have hl := rpT_len hok k
  refine ft_enter (n := 0) rfl (Nat.le_of_ble_eq_true rfl) rfl (b_Mo_reportByte_0 ⟨fun c => ?_, fun c => ⟨fun d => ⟨_, c_Mo_writesReport hI hok hla c, fun h1 w => ⟨fun e => ?_, fun e => ?_⟩⟩, fun d => ?_⟩⟩)
  · unfold qRB
    rw [if_neg (fun q => c q.1)]
    exact ⟨rfl, qFr_refl h, hla⟩
  · rw [w.2.2.2.1] at e
    unfold qRB
    rw [if_pos ⟨c, d⟩, if_neg (by omega)]
    exact ⟨rfl, w.2.1, w.2.2.1⟩
  · rw [w.2.2.2.1] at e
    unfold qRB
    rw [if_pos ⟨c, d⟩, if_pos (by omega), sqI_at w.2.2.2.2 (by omega)]
    exact ⟨⟨by omega, by omega⟩, rfl, w.2.1, w.2.2.1⟩
  · unfold qRB
    rw [if_neg (fun q => d q.2)]
    exact ⟨rfl, qFr_refl h, hla⟩
