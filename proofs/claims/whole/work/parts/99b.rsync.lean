/-! SYNC OF THE REFERENCE: removesOne -/
def mdI (h : ftH) (x : ftX) : Prop := pUn (h 309 27) = x.2.1 / 64 ∧ h 309 28 = x.2.1 % 64 ∧ h 309 29 = x.2.2.1 ∧ h 309 30 = x.2.2.2
def chR (h : ftH) (S : ftS) (P : List ftS) (T : List (Int × Int)) (r : Option ftV) (h' : ftH) : Prop := (plL S.2.2.1 T = [] ∧ r = some (.inl 0) ∧ h' = h) ∨ ∃ x l, plL S.2.2.1 T = x :: l ∧ r = some (.inl 1) ∧ rFr h h' ∧ mcI h' (S.1, S.2.1, apC S.2.2.1 x, S.2.2.2.1, ctCh 1 S.2.2.2.2) P ∧ mdI h' x
theorem hw_at {h : ftH} {S : ftS} {P : List ftS} (hI : mcI h S P) {k : Nat} (hk : k < S.2.2.1.length) : kAt S.2.2.1 k = 64 * pUn (h 310 (270 + 3 * k)) + h 310 (271 + 3 * k) ∧ vAt S.2.2.1 k = h 310 (272 + 3 * k) ∧ 0 ≤ h 310 (271 + 3 * k) ∧ h 310 (271 + 3 * k) ≤ 32 := by
  obtain ⟨z1, z2, z3, z4, z5⟩ := ft_mz_0.mp hI.1.1
  have e2 := (mc_eq hI).2.2.1
  have l2 := (mc_len hI).2.1
  have hg := ft_ml_get (h := h) (c := 310) (o := 270) (n := (h 310 2).toNat) (i := k) (by omega)
  rw [e2] at hg
  have h1 := kAt_of hg
  have h2 := z5 k (by omega)
  simp only at h1
  rw [show 271 + 3 * k = 270 + 3 * k + 1 by omega, show 272 + 3 * k = 270 + 3 * k + 2 by omega]
  exact ⟨h1.1, h1.2, h2⟩
theorem rset {h h1 h2 h3 h4 : ftH} {a b c d : Int} (e1 : h1 = ft_hs h 309 27 a) (e2 : h2 = ft_hs h1 309 28 b) (e3 : h3 = ft_hs h2 309 30 c) (e4 : h4 = ft_hs h3 309 29 d) : (∀ k, k ≠ 309 → h4 k = h k) ∧ (∀ j, ¬ (27 ≤ j ∧ j ≤ 30) → h4 309 j = h 309 j) ∧ h4 309 27 = a ∧ h4 309 28 = b ∧ h4 309 30 = c ∧ h4 309 29 = d := by
  refine ⟨fun k hk => by rw [e4, ft_hs_ne k hk, e3, ft_hs_ne k hk, e2, ft_hs_ne k hk, e1, ft_hs_ne k hk], fun j hj => by rw [e4, ft_hs_j (by omega), e3, ft_hs_j (by omega), e2, ft_hs_j (by omega), e1, ft_hs_j (by omega)], ?_, ?_, ?_, ?_⟩
  · rw [e4, ft_hs_j (by omega), e3, ft_hs_j (by omega), e2, ft_hs_j (by omega), e1, ft_hs_same]
  · rw [e4, ft_hs_j (by omega), e3, ft_hs_j (by omega), e2, ft_hs_same]
  · rw [e4, ft_hs_j (by omega), e3, ft_hs_same]
  · rw [e4, ft_hs_same]
theorem c_Mo_removesOne {h : ftH} {S : ftS} {P : List ftS} (hI : mcI h S P) (hH : lOk S.2.2.1) (b6 : 0 ≤ h 310 6 ∧ h 310 6 ≤ 1100000000) {T : List (Int × Int)} (hT : lOk T) (h60 : T.length ≤ 60) (ht : tgI h T) (hcb : cb S.2.2.1 T T.length < 0) : ft_C k_Mo_removesOne [.inr (.inr 309)] h (chR h S P T) := by
  obtain ⟨z1, z2, z3, z4, z5⟩ := ft_mz_0.mp hI.1.1
  have l2 := (mc_len hI).2.1
  have hhd := rb_head hH hT hcb
  refine ft_enter (n := 2) rfl (Nat.le_of_ble_eq_true rfl) rfl (fv_wf (fun hw => b_Mo_removesOne_0 (fun n1 e1 => ?_)))
  rw [e1]
  have loop : ∀ m i : Nat, i + m = S.2.2.1.length → ft_V k_Mo_removesOne 5 [some (.inr (.inr 309)), some (.inl (rb S.2.2.1 T i)), some (.inl (i : Int))] [] h (chR h S P T) := by
    intro m
    induction m with
    | zero =>
      intro i hm
      have hi : i = S.2.2.1.length := by omega
      subst hi
      refine b_Mo_removesOne_5 ⟨fun _ => ⟨fun c => ?_, fun c => Or.inl ⟨hhd.1 (by omega), rfl, rfl⟩⟩, fun c => absurd (by omega) c⟩
      rcases rb_spec (H := S.2.2.1) (T := T) S.2.2.1.length with ⟨e2, -⟩ | ⟨p, hp, e2, -, -⟩
      · omega
      · obtain ⟨l, hl⟩ := hhd.2 p hp e2
        rw [e2, Int.toNat_natCast]
        refine ⟨⟨by omega, by omega⟩, fun h1 k1 => ⟨⟨by omega, by omega⟩, fun h2 k2 => ⟨⟨by omega, by omega⟩, fun h3 k3 h4 k4 => ?_⟩⟩⟩
        obtain ⟨f1, f2, f3, f4, f5, f6⟩ := rset k1 k2 k3 k4
        have q1 : h1 310 = h 310 := by rw [k1, ft_hs_ne 310 (by omega)]
        have q2 : h2 310 = h 310 := by rw [k2, ft_hs_ne 310 (by omega), q1]
        rw [q1] at f4
        rw [q2] at f5
        have hI4 : mcI h4 S P := mcI_fr hI (f1 310 (by omega)) (f1 311 (by omega)) (f2 4 (by omega))
        have g0 : h4 310 = h 310 := f1 310 (by omega)
        refine ⟨_, c_Mo_takesHardware (o := 270) rfl (n := S.2.2.1.length) (a := p) (by rw [g0, l2]) (by omega) hp (by rw [g0]; exact b6) (fun k hk => by rw [g0]; exact z5 k (by omega)), fun h5 w => ?_⟩
        obtain ⟨-, w1, w2, w3, w4, w5, w6⟩ := w
        have ml4 : ft_ml h4 310 270 S.2.2.1.length = S.2.2.1 := by
          have := (mc_eq hI4).2.2.1
          have l4 := (mc_len hI4).2.1
          rw [show (h4 310 2).toNat = S.2.2.1.length by omega] at this
          exact this
        have hI5 := mcI_hw hI4 w1 w3 (by omega) w2 w4 w6
        have hx := hw_at hI hp
        rw [w5, ml4, erase_filter hH.2 (kAt_get hp) rfl] at hI5
        refine Or.inr ⟨_, l, hl, rfl, ⟨fun c c1 c2 => by rw [w1 c c2, f1 c c1], fun j hj => by rw [w1 309 (by omega), f2 j hj]⟩, hI5, ?_⟩
        unfold mdI
        rw [w1 309 (by omega), f3, f4, f5, f6]
        simp only
        rw [hx.1, hx.2.1]
        exact ⟨by omega, by omega, trivial, rfl⟩
    | succ m ih =>
      intro i hm
      have hi := ih (i + 1) (by omega)
      rw [rb] at hi
      have hx := hw_at hI (show i < S.2.2.1.length by omega)
      refine b_Mo_removesOne_5 ⟨fun c => absurd c (by omega), fun _ => ⟨⟨by omega, by omega⟩, ⟨by omega, by omega⟩, _, c_Mo_targetAt ht h60 (hw 310 _) (by rw [Int.toNat_natCast]; exact hx.2.2), fun z h1 _ w => ?_⟩⟩
      obtain ⟨rfl, r, w1, w2⟩ := w
      have hz := injI w1
      subst hz
      rw [Int.toNat_natCast, ← hx.1] at w2
      rw [inc1 (by omega), Int.toNat_natCast]
      rcases w2 with ⟨r1, r2⟩ | ⟨r1, r2⟩
      · refine ⟨fun c => absurd c (by omega), fun _ => ⟨fun c => ?_, fun c => ?_⟩⟩
        · rw [if_pos ⟨r2, Or.inl c⟩] at hi
          exact hi
        · rcases rb_spec (H := S.2.2.1) (T := T) i with ⟨e2, -⟩ | ⟨p, hp, e2, -, -⟩
          · omega
          · have hy := hw_at hI (show p < S.2.2.1.length by omega)
            rw [e2, Int.toNat_natCast] at hi ⊢
            refine ⟨⟨by omega, by omega⟩, ⟨by omega, by omega⟩, fun t => ?_, fun t => ?_⟩
            · rw [if_neg (by
                rintro ⟨-, a | a⟩
                · omega
                · rw [hx.1, hy.1] at a; omega)] at hi
              exact hi
            · rw [if_pos ⟨r2, Or.inr (by rw [hx.1, hy.1]; omega)⟩] at hi
              exact hi
      · rw [if_neg (fun q => q.1 r2)] at hi
        exact ⟨fun _ => hi, fun c => absurd r1 c⟩
  exact loop S.2.2.1.length 0 (by omega)
