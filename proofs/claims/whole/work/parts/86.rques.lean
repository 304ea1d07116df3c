/-! what follows from a state -/
noncomputable def eOf (S : ftS) : List (Int × Int) := ortc S.2.1
noncomputable def hOf (S : ftS) : Nat → Int := hitI (eOf S) S.2.2.2.1
noncomputable def bsX (E : List (Int × Int)) (ht : Nat → Int) (cap : Nat) : Nat × List (Nat × Bool) := by
  classical
  exact if h : ∃ x : Nat × List (Nat × Bool), bestC E ht cap x.1 x.2 then Classical.choose h else (0, [])
theorem bsX_eq {E : List (Int × Int)} {ht : Nat → Int} {cap bp : Nat} {D : List (Nat × Bool)} (h : bestC E ht cap bp D) : (bsX E ht cap).1 = bp ∧ bD (bsX E ht cap).2 = bD D ∧ lD ht (bsX E ht cap).2 = lD ht D := by
  have hex : ∃ x : Nat × List (Nat × Bool), bestC E ht cap x.1 x.2 := ⟨(bp, D), h⟩
  have hc : bestC E ht cap (bsX E ht cap).1 (bsX E ht cap).2 := by
    unfold bsX
    rw [dif_pos hex]
    exact Classical.choose_spec hex
  have hu := bestC_uniq hc h
  have s1 := top_sum (ht := ht) hc.2.1
  have s2 := top_sum (ht := ht) h.2.1
  exact ⟨hu.1, hu.2.2, by omega⟩
noncomputable def bB (S : ftS) : Nat := bD (bsX (eOf S) (hOf S) S.1.toNat).2
noncomputable def bL (S : ftS) (cap : Nat) : Int := lD (hOf S) (bsX (eOf S) (hOf S) cap).2
noncomputable def bP (S : ftS) (cap : Nat) : Nat := (bsX (eOf S) (hOf S) cap).1
noncomputable def tOf (S : ftS) : List (Int × Int) := tgL (eOf S) (bB S) (eOf S).length
theorem eOf_ok {B : Int} {S : ftS} (hok : sOk B S) : lOk (eOf S) ∧ hop15 (eOf S) ∧ (eOf S).length ≤ 60 := by
  have := ortc_ok hok.2.1.1 (fun q hq => ⟨(hok.2.1.1.1 q hq).2.1, hok.2.1.2.1 q hq⟩)
  exact ⟨this.1, this.2.1, Nat.le_trans this.2.2 hok.2.1.2.2⟩
theorem hOf_ok {B : Int} {S : ftS} (hok : sOk B S) : (∀ i, 0 ≤ hOf S i) ∧ sm (hOf S) (eOf S).length ≤ 40000000 ∧ sm (hOf S) (eOf S).length = allH (eOf S) S.2.2.2.1 := by
  have h1 := allH_le (E := eOf S) hok.2.2.2.1
  have h2 := hit_all (eOf S) S.2.2.2.1
  refine ⟨fun i => hit_nn hok.2.2.2.1 i, ?_, h2⟩
  have : sm (hOf S) (eOf S).length = sm (hitI (eOf S) S.2.2.2.1) (eOf S).length := rfl
  omega
/-! the reference: laid out -/
def laI (h : ftH) (S : ftS) : Prop := enI h (eOf S) ∧ (∀ i, i < (eOf S).length → h 321 i = (upO (eOf S) i : Int) ∧ h 322 i = hOf S i ∧ h 325 i = if (bB S).testBit (59 - i) = true then 1 else 0) ∧ h 309 21 = bL S S.1.toNat
def mFr (h h' : ftH) : Prop := (∀ c, c ≠ 309 → (c < 313 ∨ 326 ≤ c) → h' c = h c) ∧ ∀ j, j ≠ 10 → j ≠ 14 → j ≠ 20 → j ≠ 21 → j ≠ 22 → h' 309 j = h 309 j
theorem mFr_mc {h h' : ftH} (hf : mFr h h') {S : ftS} {P : List ftS} (hI : mcI h S P) : mcI h' S P := mcI_fr hI (hf.1 310 (by omega) (by omega)) (hf.1 311 (by omega) (by omega)) (hf.2 4 (by omega) (by omega) (by omega) (by omega) (by omega))
theorem v_Mo_decide {B : Int} {S : ftS} (hok : sOk B S) {bp : Nat} {D : List (Nat × Bool)} (hB : bestC (eOf S) (hOf S) S.1.toNat bp D) (hbp : bp ≤ 60) {h0 : ftH} (hE : enI h0 (eOf S)) (h21 : ∀ i, i < (eOf S).length → h0 321 i = (upO (eOf S) i : Int) ∧ h0 322 i = hOf S i) (hl : h0 309 21 = lD (hOf S) D) (hp : h0 309 22 = (bp : Int)) {R : Option ftV → ftH → Prop} (hk : ∀ h : ftH, (∀ i, i < (eOf S).length → h 325 i = if (bD D).testBit (59 - i) = true then 1 else 0) → (∀ c, c ≠ 323 → c ≠ 324 → c ≠ 325 → h c = h0 c) → R none h) :
    ∀ (m e : Nat) (h : ftH), e + m = (eOf S).length → (∀ c, c ≠ 323 → c ≠ 324 → c ≠ 325 → h c = h0 c) → (∀ j, j < e → h 325 j = if (bD D).testBit (59 - j) = true then 1 else 0) → (∀ j, e ≤ j → j < (eOf S).length → h 325 j = 2) → ft_V k_Mo_laysAll 49 [some (.inr (.inr 309)), some (.inl (e : Int))] [] h R := by
  have hEo := eOf_ok hok
  have hHo := hOf_ok hok
  intro m
  induction m with
  | zero =>
    intro e h hm f d1 d2
    exact b_Mo_laysAll_49 ⟨fun _ => hk h (fun i hi => d1 i (by omega)) f, fun c => absurd (by rw [f 309 (by omega) (by omega) (by omega), hE.1]; omega) c⟩
  | succ m ih =>
    intro e h hm f d1 d2
    have heE : e < (eOf S).length := by omega
    refine b_Mo_laysAll_49 ⟨fun c => absurd c (by rw [f 309 (by omega) (by omega) (by omega), hE.1]; omega), fun _ => ⟨⟨by omega, by omega⟩, fun h1 e1 => ?_⟩⟩
    rw [Int.toNat_natCast] at e1
    have r1 : ∀ c, c ≠ 325 → h1 c = h c := fun c hc => by rw [e1]; exact ft_hs_ne c hc
    refine ⟨_, d_Mo_laysLost hEo.2.2 hHo.1 hHo.2.1 (h := h1) (by rw [r1 309 (by omega), f 309 (by omega) (by omega) (by omega)]; exact hE.1) (fun i hi => by rw [r1 321 (by omega), f 321 (by omega) (by omega) (by omega)]; exact (h21 i hi).1) (fun i hi => by rw [r1 322 (by omega), f 322 (by omega) (by omega) (by omega)]; exact (h21 i hi).2), fun h2 hw => ?_⟩
    obtain ⟨-, u1, u2⟩ := hw
    have x9 : h2 309 = h0 309 := by rw [u2 309 (by omega) (by omega), r1 309 (by omega), f 309 (by omega) (by omega) (by omega)]
    have hst := dec_step hEo.2.2 hHo.1 hHo.2.1 hB heE (c := h1 325) (fun j hj => by rw [e1, ft_hs_j (by omega)]; exact d1 j hj) (by rw [e1]; exact ft_hs_same) (fun j j1 j2 => by rw [e1, ft_hs_j (by omega)]; exact d2 j (by omega) j2) (u1 bp hbp)
    rw [x9, hp, hl, show (61 * (2 * (64 : Int) + 0) + (bp : Int)).toNat = 7808 + bp by omega, inc1 (by omega), Int.toNat_natCast]
    refine ⟨⟨⟨by omega, by omega⟩, ⟨by omega, by omega⟩, by omega, by omega⟩, ⟨by omega, by omega⟩, fun c => ih (e + 1) h2 (by omega) (fun c c1 c2 c3 => by rw [u2 c c1 c2, r1 c c3, f c c1 c2 c3]) (fun j hj => ?_) (fun j j1 j2 => ?_), fun c => ⟨⟨by omega, by omega⟩, fun h3 e3 => ih (e + 1) h3 (by omega) (fun c c1 c2 c3 => by rw [e3, ft_hs_ne c c3, u2 c c1 c2, r1 c c3, f c c1 c2 c3]) (fun j hj => ?_) (fun j j1 j2 => ?_)⟩⟩
    · rw [u2 325 (by omega) (by omega), e1]
      by_cases q : j = e
      · subst q
        rw [ft_hs_same, if_pos (hst.mp c)]
      · rw [ft_hs_j q]; exact d1 j (by omega)
    · rw [u2 325 (by omega) (by omega), e1, ft_hs_j (by omega)]
      exact d2 j (by omega) j2
    · rw [e3]
      by_cases q : j = e
      · subst q
        rw [ft_hs_same, if_neg (fun t => c (hst.mpr t))]
      · rw [ft_hs_j q, u2 325 (by omega) (by omega), e1, ft_hs_j q]; exact d1 j (by omega)
    · rw [e3, ft_hs_j (by omega), u2 325 (by omega) (by omega), e1, ft_hs_j (by omega)]
      exact d2 j (by omega) j2
theorem d_Mo_laysAll {h : ftH} {S : ftS} {P : List ftS} (hI : mcI h S P) {B : Int} (hok : sOk B S) (hla : h 309 20 = 0 ∨ laI h S) : ft_C k_Mo_laysAll [.inr (.inr 309)] h (fun r h' => r = none ∧ mFr h h' ∧ laI h' S ∧ (h 309 20 = 0 → h' 309 20 = 1) ∧ (h 309 20 ≠ 0 → h' = h)) := by
  have hEo := eOf_ok hok
  have hHo := hOf_ok hok
  refine ft_enter (n := 1) rfl (Nat.le_of_ble_eq_true rfl) rfl (b_Mo_laysAll_0 ⟨fun c h1 e1 => ?_, fun c => ?_⟩)
  · have f1 : ∀ c, c ≠ 309 → h1 c = h c := fun c hc => by rw [e1]; exact ft_hs_ne c hc
    have f1j : ∀ j, j ≠ 20 → h1 309 j = h 309 j := fun j hj => by rw [e1]; exact ft_hs_j hj
    have hI1 : mcI h1 S P := mcI_fr hI (f1 310 (by omega)) (f1 311 (by omega)) (f1j 4 (by omega))
    refine ⟨_, d_Mo_laysEntries hI1 hok, fun h2 hw => ?_⟩
    obtain ⟨-, u1, u2, u3⟩ := hw
    have hI2 : mcI h2 S P := mcI_fr hI1 (u1 310 (by omega) (by omega)) (u1 311 (by omega) (by omega)) (u2 4 (by omega) (by omega))
    obtain ⟨e0, -, -, e3, -⟩ := mc_eq hI2
    obtain ⟨-, -, z3, -⟩ := ft_mz_0.mp hI2.1.1
    refine ⟨_, c_Mo_laysHits (o := 190) rfl hEo.1 hEo.2.2 u3 hok.2.2.2.1 (n := (h2 310 1).toNat) (by omega) e3, fun h3 hw3 => ?_⟩
    obtain ⟨-, v1, v2⟩ := hw3
    have h14 : h3 309 14 = ((eOf S).length : Int) := by rw [v2 309 (by omega) (by omega) (by omega)]; exact u3.1
    refine ⟨_, d_Mo_laysLost hEo.2.2 hHo.1 hHo.2.1 h14 (fun i hi => (v1 i hi).1) (fun i hi => (v1 i hi).2.1), fun h4 hw4 => ?_⟩
    obtain ⟨-, w1, w2⟩ := hw4
    have cap3 : h4 310 3 = (S.1.toNat : Int) := by
      rw [w2 310 (by omega) (by omega), v2 310 (by omega) (by omega) (by omega), e0]
      have := hok.1
      omega
    have hcap : S.1.toNat ≤ 60 := by have := hok.1; omega
    have hbt : ∀ p, p ≤ 60 → h4 323 (7808 + p) ≤ 1000000000 := fun p hp => (mV_rng (vF_b hHo.1 hHo.2.1 (Nat.le_refl _) (by omega) 0 p) (w1 p hp)).2.1
    rw [cap3]
    refine ⟨_, c_Mo_lostBy hbt hcap, fun z9 h5 _ hw5 h6 e6 => ?_⟩
    obtain ⟨rfl, b, hz, b1, b2⟩ := hw5
    have hz := injI hz
    subst hz
    obtain ⟨x, D, x1, x2, x3, x4, x5⟩ := tab_best hEo.2.2 hHo.1 hHo.2.1 (fun i hi => (v1 i hi).2.2) w1 hcap b1 b2
    have r6 : ∀ c, c ≠ 309 → h6 c = h5 c := fun c hc => by rw [e6]; exact ft_hs_ne c hc
    have h621 : h6 309 21 = z9 := by rw [e6]; exact ft_hs_same
    have fp := v_Mo_fewest (h := h6) (cap := S.1.toNat) hcap (by rw [r6 310 (by omega)]; exact cap3) (x := x) x1 (by rw [r6 323 (by omega), h621]; exact x2) (fun q hq => by rw [r6 323 (by omega), h621]; exact x3 q hq) (R := fun r h' => r = some (.inl (x : Int)) ∧ h' = h6) ⟨rfl, rfl⟩ x 0 (by omega)
    refine ⟨_, ft_enter (n := 1) rfl (Nat.le_of_ble_eq_true rfl) rfl (b_Mo_fewestPlaces_0 fp), fun z12 h7 _ hw7 h8 e8 => ?_⟩
    obtain ⟨hz12, rfl⟩ := hw7
    rw [injI hz12] at e8
    have r8 : ∀ c, c ≠ 309 → h8 c = h5 c := fun c hc => by rw [e8, ft_hs_ne c hc, r6 c hc]
    have r8j : ∀ j, j ≠ 21 → j ≠ 22 → h8 309 j = h5 309 j := fun j j1 j2 => by rw [e8, ft_hs_j j2, e6, ft_hs_j j1]
    have back : ∀ c, c ≠ 309 → c ≠ 321 → c ≠ 322 → c ≠ 323 → c ≠ 324 → c ≠ 325 → h8 c = h2 c := fun c c0 c1 c2 c3 c4 c5 => by rw [r8 c c0, w2 c c3 c4, v2 c c1 c2 c5]
    have backj : ∀ j, j ≠ 21 → j ≠ 22 → h8 309 j = h2 309 j := fun j j1 j2 => by rw [r8j j j1 j2, w2 309 (by omega) (by omega), v2 309 (by omega) (by omega) (by omega)]
    have hE8 : enI h8 (eOf S) := enI_fr u3 (backj 14 (by omega) (by omega)) (back 318 (by omega) (by omega) (by omega) (by omega) (by omega) (by omega)) (back 319 (by omega) (by omega) (by omega) (by omega) (by omega) (by omega)) (back 320 (by omega) (by omega) (by omega) (by omega) (by omega) (by omega))
    have at8 : ∀ i, i < (eOf S).length → h8 321 i = (upO (eOf S) i : Int) ∧ h8 322 i = hOf S i := fun i hi => by
      rw [r8 321 (by omega), r8 322 (by omega), w2 321 (by omega) (by omega), w2 322 (by omega) (by omega)]
      exact ⟨(v1 i hi).1, (v1 i hi).2.1⟩
    have hbx := bsX_eq x4
    refine v_Mo_decide hok x4 (by omega) hE8 at8 (by rw [e8, ft_hs_j (by omega), h621]; exact x5) (by rw [e8]; exact ft_hs_same) (fun g k1 k2 => ⟨rfl, ⟨fun c c1 c2 => ?_, fun j j1 j2 j3 j4 j5 => ?_⟩, ⟨enI_fr hE8 (by rw [k2 309 (by omega) (by omega) (by omega)]) (k2 318 (by omega) (by omega) (by omega)) (k2 319 (by omega) (by omega) (by omega)) (k2 320 (by omega) (by omega) (by omega)), fun i hi => ⟨by rw [k2 321 (by omega) (by omega) (by omega)]; exact (at8 i hi).1, by rw [k2 322 (by omega) (by omega) (by omega)]; exact (at8 i hi).2, by rw [k1 i hi, show bB S = bD D from hbx.2.1]⟩, ?_⟩, fun _ => ?_, fun q => absurd c q⟩) (eOf S).length 0 h8 (by omega) (fun c _ _ _ => rfl) (fun j hj => absurd hj (Nat.not_lt_zero j)) (fun j _ hj => by rw [r8 325 (by omega), w2 325 (by omega) (by omega)]; exact (v1 j hj).2.2)
    · rw [k2 c (by omega) (by omega) (by omega), back c c1 (by omega) (by omega) (by omega) (by omega) (by omega), u1 c c1 (by omega), f1 c c1]
    · rw [k2 309 (by omega) (by omega) (by omega), backj j j4 j5, u2 j j1 j2, f1j j j3]
    · rw [k2 309 (by omega) (by omega) (by omega), e8, ft_hs_j (by omega), h621, x5]
      exact hbx.2.2.symm
    · rw [k2 309 (by omega) (by omega) (by omega), backj 20 (by omega) (by omega), u2 20 (by omega) (by omega), e1, ft_hs_same]
  · rcases hla with q | q
    · exact absurd q c
    · exact ⟨rfl, ⟨fun c _ _ => rfl, fun j _ _ _ _ _ => rfl⟩, q, fun t => absurd t c, fun _ => rfl⟩
theorem d_Mo_laysOpen {h : ftH} {S : ftS} {P : List ftS} (hI : mcI h S P) {B : Int} (hok : sOk B S) (hla : h 309 20 = 0 ∨ laI h S) : ft_C k_Mo_laysOpen [.inr (.inr 309)] h (fun r h' => r = none ∧ mFr h h' ∧ h' 309 20 = 0 ∧ ∃ c, (∀ i, i < (eOf S).length → c i = 2) ∧ tabN h' (eOf S) (hOf S) c) := by
  have hEo := eOf_ok hok
  have hHo := hOf_ok hok
  refine ft_enter (n := 1) rfl (Nat.le_of_ble_eq_true rfl) rfl (b_Mo_laysOpen_0 ⟨_, d_Mo_laysAll hI hok hla, fun h1 hw h2 e2 => ?_⟩)
  obtain ⟨-, u1, u2, -, -⟩ := hw
  have r2 : ∀ c, c ≠ 309 → h2 c = h1 c := fun c hc => by rw [e2]; exact ft_hs_ne c hc
  have r2j : ∀ j, j ≠ 20 → h2 309 j = h1 309 j := fun j hj => by rw [e2]; exact ft_hs_j hj
  have r20 : h2 309 20 = 0 := by rw [e2]; exact ft_hs_same
  have loop : ∀ (m i : Nat) (g : ftH), i + m = (eOf S).length → (∀ c, c ≠ 325 → g c = h2 c) → (∀ j, j < i → g 325 j = 2) → ft_V k_Mo_laysOpen 11 [some (.inr (.inr 309)), some (.inl (i : Int))] [] g (fun r h' => r = none ∧ mFr h h' ∧ h' 309 20 = 0 ∧ ∃ c, (∀ i, i < (eOf S).length → c i = 2) ∧ tabN h' (eOf S) (hOf S) c) := by
    intro m
    induction m with
    | zero =>
      intro i g hm f hd
      have h14 : g 309 14 = ((eOf S).length : Int) := by rw [f 309 (by omega), r2j 14 (by omega)]; exact u2.1.1
      refine b_Mo_laysOpen_11 ⟨fun _ => ⟨_, d_Mo_laysLost hEo.2.2 hHo.1 hHo.2.1 h14 (fun i hi => by rw [f 321 (by omega), r2 321 (by omega)]; exact (u2.2.1 i hi).1) (fun i hi => by rw [f 322 (by omega), r2 322 (by omega)]; exact (u2.2.1 i hi).2.1), fun h3 hw3 => ?_⟩, fun c => absurd (by omega) c⟩
      obtain ⟨-, v1, v2⟩ := hw3
      exact ⟨rfl, ⟨fun c c1 c2 => by rw [v2 c (by omega) (by omega), f c (by omega), r2 c c1, u1.1 c c1 c2], fun j j1 j2 j3 j4 j5 => by rw [v2 309 (by omega) (by omega), f 309 (by omega), r2j j j3, u1.2 j j1 j2 j3 j4 j5]⟩, by rw [v2 309 (by omega) (by omega), f 309 (by omega), r20], g 325, fun i hi => hd i (by omega), v1⟩
    | succ m ih =>
      intro i g hm f hd
      have h14 : g 309 14 = ((eOf S).length : Int) := by rw [f 309 (by omega), r2j 14 (by omega)]; exact u2.1.1
      refine b_Mo_laysOpen_11 ⟨fun c => absurd c (by omega), fun _ => ⟨⟨by omega, by omega⟩, fun h3 e3 => ?_⟩⟩
      rw [Int.toNat_natCast] at e3
      rw [inc1 (by omega)]
      refine ih (i + 1) h3 (by omega) (fun c hc => by rw [e3, ft_hs_ne c hc, f c hc]) (fun j hj => ?_)
      by_cases q : j = i
      · rw [q, e3]; exact ft_hs_same
      · rw [e3, ft_hs_j q]; exact hd j (by omega)
  exact loop (eOf S).length 0 h2 (by omega) (fun c _ => rfl) (fun j hj => absurd hj (Nat.not_lt_zero j))
