/-! THE COMPRESSED TABLE WITHOUT A ROUTE, BOTH SIDES -/
noncomputable def qWo (S : ftS) (i : Nat) : Int := ((ortc (S.2.1.eraseIdx i)).length : Int)
noncomputable def qCW (i : Int) (S : ftS) : Int := if i < 0 then -1 else if (S.2.1.length : Int) ≤ i then -2 else qWo S i.toNat
def csN (f : Nat → Int) : Nat → Int
  | 0 => -2
  | n + 1 => if csN f n < 0 ∨ f n < f (csN f n).toNat then (n : Int) else csN f n
theorem er_ok {B : Int} {S : ftS} (hok : sOk B S) (i : Nat) : lOk (S.2.1.eraseIdx i) ∧ hop15 (S.2.1.eraseIdx i) ∧ (S.2.1.eraseIdx i).length ≤ 60 := by
  have hs := List.eraseIdx_sublist S.2.1 i
  refine ⟨⟨fun q hq => hok.2.1.1.1 q (hs.subset hq), hok.2.1.1.2.sublist hs⟩, fun q hq => ⟨(hok.2.1.1.1 q (hs.subset hq)).2.1, hok.2.1.2.1 q (hs.subset hq)⟩, ?_⟩
  have := hs.length_le
  have := hok.2.1.2.2
  omega
/-- what these leave alone in the class -/
def eFr (h h' : ftH) : Prop := ∀ k, k < 122 ∨ (133 ≤ k ∧ k < 296) ∨ 299 ≤ k → h' k = h k
theorem eFr_cs {h h' : ftH} {S : ftS} (f : eFr h h') (hc : csI h S) : csI h' S := by
  obtain ⟨a, b, c, d, e⟩ := hc
  unfold csI
  rw [f 0 (by omega)]
  exact ⟨a, fun q => lv1_fr (fun k k1 k2 => f k (by omega)) (b q), fun q => lv2_fr (fun k k1 k2 => f k (by omega)) (c q), fun q => lv3_fr (fun k k1 k2 => f k (by omega)) (d q), fun q => lv4_fr (fun k k1 k2 => f k (by omega)) (e q)⟩
theorem s_296 : ft_sh 296 = some (.inl 4) := by decide +kernel
theorem l_297 : ft_ln 297 = 60 := by decide +kernel
theorem c_FT_entriesWithout {h : ftH} {S : ftS} {P : List ftS} (hI : ccI h S P) {B : Int} (hok : sOk B S) {i : Nat} (hi : i < S.2.1.length) : ft_C k_FT_entriesWithout [.inr (.inr 0), .inl (i : Int)] h (fun r h' => r = some (.inl (qWo S i)) ∧ eFr h h') := by
  obtain ⟨p1, p2, p3⟩ := cc_ps hI hok
  obtain ⟨e0, e1, e2, e3, e4⟩ := cc_eq hI
  have l1 := (cc_len hI).1
  have z1 : 0 ≤ h 2 2 ∧ h 2 2 ≤ 60 := hI.1.1.1
  have hE := er_ok hok i
  refine ft_enter (n := 0) rfl (Nat.le_of_ble_eq_true rfl) rfl (b_FT_entriesWithout_0 ⟨_, c_PS_copyFrom (a := 296) (b := 2) s_296 sh_2 (Or.inr (by omega)) p1.1 (by rw [show 296 + 1 = 297 from rfl, l_297]; exact z1.2), fun h1 hw => ?_⟩)
  obtain ⟨-, u1, u2, u3⟩ := hw
  have e9 : ft_pl h1 296 = S.2.1 := by rw [u3, e1]
  have q9 : ft_ps h1 296 := ft_ps_of ⟨by omega, by rw [show 296 + 1 = 297 from rfl, l_297]; omega⟩ (by rw [e9]; exact hok.2.1.1)
  refine ⟨_, c_PS_removeAt s_296 q9 (i := i) (by omega), fun h2 hw => ?_⟩
  obtain ⟨-, v1, v2, v3⟩ := hw
  rw [e9] at v3
  have q2 : ft_ps h2 296 := ft_ps_of ⟨by omega, by rw [show 296 + 1 = 297 from rfl, l_297]; omega⟩ (by rw [v3]; exact hE.1)
  refine ⟨_, c_Co_compress s_296 (Or.inr (by omega)) hE.1 hE.2.1 hE.2.2 (setI_of q2 v3), fun z h3 _ hw => ?_⟩
  obtain ⟨w1, -, w2⟩ := hw
  exact ⟨w1, fun k hk => by rw [w2 k (by omega), v1 k (by omega), u1 k (by omega)]⟩
theorem d_FT_compressedWithout {h : ftH} {S : ftS} {P : List ftS} (hI : ccI h S P) {B : Int} (hok : sOk B S) {i : Int} : ft_C k_FT_compressedWithout [.inr (.inr 0), .inl i] h (fun r h' => r = some (.inl (qCW i S)) ∧ eFr h h') := by
  have l1 := (cc_len hI).1
  unfold qCW
  refine ft_enter (n := 0) rfl (Nat.le_of_ble_eq_true rfl) rfl (b_FT_compressedWithout_0 ⟨fun c => ⟨fun d => ?_, fun d => ?_⟩, fun c => ?_⟩)
  · rw [if_neg (by omega), if_pos (by omega)]
    exact ⟨rfl, fun _ _ => rfl⟩
  · rw [if_neg (by omega), if_neg (by omega)]
    obtain ⟨k, rfl⟩ : ∃ k : Nat, i = (k : Int) := ⟨i.toNat, by omega⟩
    rw [Int.toNat_natCast]
    exact ⟨_, c_FT_entriesWithout hI hok (by omega), fun z h1 _ w => w⟩
  · rw [if_pos (by omega)]
    exact ⟨rfl, fun _ _ => rfl⟩
theorem d_FT_costliest {h : ftH} {S : ftS} {P : List ftS} (hI : ccI h S P) {B : Int} (hok : sOk B S) : ft_C k_FT_costliest [.inr (.inr 0)] h (fun r h' => r = some (.inl (csN (qWo S) S.2.1.length)) ∧ eFr h h') := by
  have l1 := (cc_len hI).1
  have h60 := hok.2.1.2.2
  refine ft_enter (n := 4) rfl (Nat.le_of_ble_eq_true rfl) rfl (b_FT_costliest_0 (fun n1 e1 => ?_))
  rw [e1]
  have loop : ∀ (m i : Nat) (g : ftH), i + m = S.2.1.length → eFr h g → ft_V k_FT_costliest 7 [some (.inr (.inr 0)), some (.inl (csN (qWo S) i)), some (.inl (if csN (qWo S) i < 0 then 0 else qWo S (csN (qWo S) i).toNat)), some (.inl (i : Int)), none] [] g (fun r h' => r = some (.inl (csN (qWo S) S.2.1.length)) ∧ eFr h h') := by
    intro m
    induction m with
    | zero =>
      intro i g hm f
      exact b_FT_costliest_7 ⟨fun _ => ⟨by rw [show i = S.2.1.length by omega], f⟩, fun c => absurd (by rw [f 2 (by omega)]; omega) c⟩
    | succ m ih =>
      intro i g hm f
      have gI : ccI g S P := ccI_fr hI (fun k k1 k2 => f k (by omega))
      refine b_FT_costliest_7 ⟨fun c => absurd c (by rw [f 2 (by omega)]; omega), fun _ => ⟨_, c_FT_entriesWithout gI hok (i := i) (by omega), fun z g1 _ w => ?_⟩⟩
      obtain ⟨w1, w2⟩ := w
      have hz := injI w1
      subst hz
      have hi := ih (i + 1) g1 (by omega) (fun k hk => by rw [w2 k hk, f k hk])
      rw [csN] at hi
      rw [inc1 (by omega)]
      refine ⟨fun c => ?_, fun c => ?_⟩
      · rw [if_pos (Or.inl c), if_neg (by omega), Int.toNat_natCast] at hi
        exact hi
      · rw [if_neg c]
        refine ⟨fun t => ?_, fun t => ?_⟩
        · rw [if_neg (show ¬ (csN (qWo S) i < 0 ∨ qWo S i < qWo S (csN (qWo S) i).toNat) from by omega), if_neg c] at hi
          exact hi
        · rw [if_pos (Or.inr (by omega)), if_neg (by omega), Int.toNat_natCast] at hi
          exact hi
  exact loop S.2.1.length 0 h (by omega) (fun _ _ => rfl)
theorem c_Mo_entriesWithout {h : ftH} {S : ftS} {P : List ftS} (hI : mcI h S P) {B : Int} (hok : sOk B S) {i : Nat} (hi : i < S.2.1.length) : ft_C k_Mo_entriesWithout [.inr (.inr 309), .inl (i : Int)] h (fun r h' => r = some (.inl (qWo S i)) ∧ wFr h h' ∧ mcI h' S P ∧ flI h' S) := by
  have hE := er_ok hok i
  refine ft_enter (n := 0) rfl (Nat.le_of_ble_eq_true rfl) rfl (b_Mo_entriesWithout_0 ⟨_, c_Mo_laysAside, fun h1 hw => ?_⟩)
  obtain ⟨-, a1, a2⟩ := hw
  have hI1 : mcI h1 S P := mcI_fr hI (a1 310 (by omega)) (a1 311 (by omega)) (by rw [a1 309 (by omega)])
  obtain ⟨z1, z2, z3, z4, z5⟩ := ft_mz_0.mp hI1.1.1
  obtain ⟨e0, e1, e2, e3, e4⟩ := mc_eq hI1
  have l1 := (mc_len hI1).1
  have hn : h1 310 0 = (S.2.1.length : Int) := l1.symm
  have h60 := hok.2.1.2.2
  rw [hn]
  refine ⟨_, c_Mo_takesOut (o := 10) (n := S.2.1.length) (a := i) (by omega) hi (fun k hk => z4 k (by omega)), fun h2 hw h3 k3 h4 k4 => ?_⟩
  obtain ⟨-, b1, b2, b3, b4⟩ := hw
  rw [show (h1 310 0).toNat = S.2.1.length by omega] at e1
  rw [e1] at b3
  have n2 : h2 310 0 = (S.2.1.length : Int) := by rw [b2 0 (by omega), hn]
  rw [n2, ft_sub_eq (by unfold ft_in; omega), show ((S.2.1.length : Int) - 1) = ((S.2.1.length - 1 : Nat) : Int) by omega] at k3
  have c1 : ∀ c, c ≠ 310 → h3 c = h1 c := fun c hc => by rw [k3, ft_hs_ne c hc, b1 c hc]
  have cj : ∀ j, j ≠ 0 → h3 310 j = h2 310 j := fun j hj => by rw [k3, ft_hs_j hj]
  have c0 : h3 310 0 = ((S.2.1.length - 1 : Nat) : Int) := by rw [k3, ft_hs_same]
  have cf : ∀ j, j ≠ 0 → (j < 10 ∨ 190 ≤ j) → h3 310 j = h1 310 j := fun j j1 j2 => by rw [cj j j1, b2 j (by omega)]
  have hI3 : mcI h3 (S.1, S.2.1.eraseIdx i, S.2.2.1, S.2.2.2.1, S.2.2.2.2) P := by
    refine mcI_310 hI1 c1 (ft_mz_0.mpr ⟨by rw [c0]; omega, by rw [cf 2 (by omega) (by omega)]; exact z2, by rw [cf 1 (by omega) (by omega)]; exact z3, fun k hk => ?_, fun k hk => ?_⟩) ?_
    · rw [c0] at hk
      rw [cj (10 + 3 * k + 1) (by omega)]
      exact b4 k (by omega)
    · rw [cf 2 (by omega) (by omega)] at hk
      rw [cf (270 + 3 * k + 1) (by omega) (by omega)]
      exact z5 k hk
    · have m1 : ft_ml h3 310 10 (S.2.1.length - 1) = ft_ml h2 310 10 (S.2.1.length - 1) := ft_ml_mv (fun j hj => cj (10 + j) (by omega))
      have m2 : ft_ml h3 310 270 (h1 310 2).toNat = ft_ml h1 310 270 (h1 310 2).toNat := ft_ml_mv (fun j hj => cf (270 + j) (by omega) (by omega))
      have m3 : ft_gl h3 310 190 (h1 310 1).toNat = ft_gl h1 310 190 (h1 310 1).toNat := by
        unfold ft_gl
        refine List.map_congr_left (fun k hk => ?_)
        rw [cf (190 + 2 * k) (by omega) (by omega), cf (190 + 2 * k + 1) (by omega) (by omega)]
      have m4 : ft_mc h3 = ft_mc h1 := by
        unfold ft_mc
        rw [cf 4 (by omega) (by omega), cf 5 (by omega) (by omega), cf 6 (by omega) (by omega), cf 7 (by omega) (by omega), cf 8 (by omega) (by omega)]
      rw [ft_ma_0, cf 3 (by omega) (by omega), e0, c0, Int.toNat_natCast, m1, b3, cf 2 (by omega) (by omega), m2, e2, cf 1 (by omega) (by omega), m3, e3, m4, e4]
  have d1 : ∀ c, c ≠ 309 → h4 c = h3 c := fun c hc => by rw [k4, ft_hs_ne c hc]
  have dj : ∀ j, j ≠ 20 → h4 309 j = h3 309 j := fun j hj => by rw [k4, ft_hs_j hj]
  have d20 : h4 309 20 = 0 := by rw [k4, ft_hs_same]
  have hI4 := mcI_fr hI3 (d1 310 (by omega)) (d1 311 (by omega)) (dj 4 (by omega))
  have ok4 : sOk B (S.1, S.2.1.eraseIdx i, S.2.2.1, S.2.2.2.1, S.2.2.2.2) := ⟨hok.1, ⟨hE.1, fun q hq => (hE.2.1 q hq).2, hE.2.2⟩, hok.2.2.1, hok.2.2.2.1, hok.2.2.2.2⟩
  refine ⟨_, d_Mo_laysEntries hI4 ok4, fun h5 hw => ?_⟩
  obtain ⟨-, y1, y2, y3⟩ := hw
  refine ⟨_, c_Mo_comesBack, fun h6 hw => ?_⟩
  obtain ⟨-, x1, x2⟩ := hw
  have g9 : h6 309 = h5 309 := x1 309 (by omega)
  have f5 : ∀ c, c ≠ 309 → c ≠ 310 → (c < 313 ∨ 321 ≤ c) → h5 c = h1 c := fun c c1' c2 c3 => by rw [y1 c c1' c3, d1 c c1', c1 c c2]
  have j5 : ∀ j, j ≠ 10 → j ≠ 14 → j ≠ 20 → h5 309 j = h1 309 j := fun j j1 j2 j3 => by rw [y2 j j1 j2, dj j j3, c1 309 (by omega)]
  refine ⟨by rw [g9, y3.1]; rfl, ⟨fun c hc => by rw [x1 c (by omega), f5 c (by omega) (by omega) (by omega), a1 c (by omega)], fun j hj => by rw [g9, j5 j (by omega) (by omega) (by omega), a1 309 (by omega)]⟩, mcI_520 hI (fun j hj => by rw [x2 j hj, f5 312 (by omega) (by omega) (by omega), a2 j hj]) (by rw [x1 311 (by omega), f5 311 (by omega) (by omega) (by omega), a1 311 (by omega)]) (by rw [g9, j5 4 (by omega) (by omega) (by omega), a1 309 (by omega)]), Or.inl (by rw [g9, y2 20 (by omega) (by omega), d20])⟩
theorem wFr_tr {h g k : ftH} (a : wFr h g) (b : wFr g k) : wFr h k := ⟨fun c hc => by rw [b.1 c hc, a.1 c hc], fun j hj => by rw [b.2 j hj, a.2 j hj]⟩
theorem d_Mo_compressedWithout {h : ftH} {S : ftS} {P : List ftS} (hI : mcI h S P) {B : Int} (hok : sOk B S) (hla : flI h S) {i : Int} : ft_C k_Mo_compressedWithout [.inr (.inr 309), .inl i] h (fun r h' => r = some (.inl (qCW i S)) ∧ wFr h h' ∧ mcI h' S P ∧ flI h' S) := by
  have l1 := (mc_len hI).1
  unfold qCW
  refine ft_enter (n := 0) rfl (Nat.le_of_ble_eq_true rfl) rfl (b_Mo_compressedWithout_0 ⟨fun c => ⟨by omega, fun d => ?_, fun d => ?_⟩, fun c => ?_⟩)
  · rw [if_neg (by omega), if_pos (by omega)]
    exact ⟨rfl, wFr_rfl h, hI, hla⟩
  · rw [if_neg (by omega), if_neg (by omega)]
    obtain ⟨k, rfl⟩ : ∃ k : Nat, i = (k : Int) := ⟨i.toNat, by omega⟩
    rw [Int.toNat_natCast]
    exact ⟨_, c_Mo_entriesWithout hI hok (by omega), fun z h1 _ w => w⟩
  · rw [if_pos (by omega)]
    exact ⟨rfl, wFr_rfl h, hI, hla⟩
theorem d_Mo_costliest {h : ftH} {S : ftS} {P : List ftS} (hI : mcI h S P) {B : Int} (hok : sOk B S) (hla : flI h S) : ft_C k_Mo_costliest [.inr (.inr 309)] h (fun r h' => r = some (.inl (csN (qWo S) S.2.1.length)) ∧ wFr h h' ∧ mcI h' S P ∧ flI h' S) := by
  have h60 := hok.2.1.2.2
  refine ft_enter (n := 4) rfl (Nat.le_of_ble_eq_true rfl) rfl (b_Mo_costliest_0 (fun n1 e1 => ?_))
  rw [e1]
  have loop : ∀ (m i : Nat) (g : ftH), i + m = S.2.1.length → wFr h g → mcI g S P → flI g S → ft_V k_Mo_costliest 7 [some (.inr (.inr 309)), some (.inl (csN (qWo S) i)), some (.inl (if csN (qWo S) i < 0 then 0 else qWo S (csN (qWo S) i).toNat)), some (.inl (i : Int)), none] [] g (fun r h' => r = some (.inl (csN (qWo S) S.2.1.length)) ∧ wFr h h' ∧ mcI h' S P ∧ flI h' S) := by
    intro m
    induction m with
    | zero =>
      intro i g hm f gI gl
      have l1 := (mc_len gI).1
      exact b_Mo_costliest_7 ⟨fun _ => ⟨by rw [show i = S.2.1.length by omega], f, gI, gl⟩, fun c => absurd (by omega) c⟩
    | succ m ih =>
      intro i g hm f gI gl
      have l1 := (mc_len gI).1
      refine b_Mo_costliest_7 ⟨fun c => absurd c (by omega), fun _ => ⟨_, c_Mo_entriesWithout gI hok (i := i) (by omega), fun z g1 _ w => ?_⟩⟩
      obtain ⟨w1, w2, w3, w4⟩ := w
      have hz := injI w1
      subst hz
      have hi := ih (i + 1) g1 (by omega) (wFr_tr f w2) w3 w4
      rw [csN] at hi
      rw [inc1 (by omega)]
      refine ⟨fun c => ?_, fun c => ?_⟩
      · rw [if_pos (Or.inl c), if_neg (by omega), Int.toNat_natCast] at hi
        exact hi
      · rw [if_neg c]
        refine ⟨fun t => ?_, fun t => ?_⟩
        · rw [if_pos (Or.inr t), if_neg (by omega), Int.toNat_natCast] at hi
          exact hi
        · rw [if_neg (show ¬ (csN (qWo S) i < 0 ∨ qWo S i < qWo S (csN (qWo S) i).toNat) from by omega), if_neg c] at hi
          exact hi
  exact loop S.2.1.length 0 h (by omega) (wFr_rfl h) hI hla
