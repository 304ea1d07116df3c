/-! SYNC OF THE REFERENCE: changesOne -/
theorem ml_set {h h' : ftH} {n p : Nat} (hp : p < n) {v : Int} (f : ∀ j, j ≠ 270 + 3 * p + 2 → 270 ≤ j → h' 310 j = h 310 j) (e : h' 310 (270 + 3 * p + 2) = v) : ft_ml h' 310 270 n = (ft_ml h 310 270 n).set p (64 * pUn (h 310 (270 + 3 * p)) + h 310 (270 + 3 * p + 1), v) := by
  apply List.ext_getElem?
  intro i
  by_cases c : i < n
  · rw [ft_ml_get c, List.getElem?_set, ft_ml_len]
    by_cases t : p = i
    · rw [if_pos t, if_pos hp]
      subst t
      rw [e, f (270 + 3 * p) (by omega) (by omega), f (270 + 3 * p + 1) (by omega) (by omega)]
    · rw [if_neg t, ft_ml_get c, f (270 + 3 * i) (by omega) (by omega), f (270 + 3 * i + 1) (by omega) (by omega), f (270 + 3 * i + 2) (by omega) (by omega)]
  · rw [ft_ml_none (by omega), List.getElem?_eq_none (by rw [List.length_set, ft_ml_len]; omega)]
theorem c_Mo_changesOne {h : ftH} {S : ftS} {P : List ftS} (hI : mcI h S P) (hH : lOk S.2.2.1) (b6 : 0 ≤ h 310 6 ∧ h 310 6 ≤ 1100000000) {T : List (Int × Int)} (hT : lOk T) (h60 : T.length ≤ 60) (ht : tgI h T) (htog : togC S.2.2.1 T ≤ 80) : ft_C k_Mo_changesOne [.inr (.inr 309)] h (chR h S P T) := by
  obtain ⟨z1, z2, z3, z4, z5⟩ := ft_mz_0.mp hI.1.1
  have l2 := (mc_len hI).2.1
  refine ft_enter (n := 3) rfl (Nat.le_of_ble_eq_true rfl) rfl (fv_wf (fun hw => b_Mo_changesOne_0 (fun n1 e1 => ?_)))
  rw [e1]
  have loop : ∀ m i : Nat, i + m = T.length → ft_V k_Mo_changesOne 5 [some (.inr (.inr 309)), some (.inl (cb S.2.2.1 T i)), some (.inl (i : Int)), none] [] h (chR h S P T) := by
    intro m
    induction m with
    | zero =>
      intro i hm
      have hi : i = T.length := by omega
      subst hi
      refine b_Mo_changesOne_5 ⟨fun _ => ⟨fun c => ?_, fun c => ⟨_, c_Mo_removesOne hI hH b6 hT h60 ht (by omega), fun z h5 _ w => ⟨?_, w⟩⟩⟩, fun c => absurd (by rw [ht.1]; omega) c⟩
      · rcases cb_spec (H := S.2.2.1) (T := T) T.length with ⟨e2, -⟩ | ⟨p, hp, e2, hq, -⟩
        · omega
        · obtain ⟨l, hl⟩ := cb_head hH hT hp e2
          have ha := tgI_at ht hp
          have hri := ht.2.2 p hp
          rw [e2, Int.toNat_natCast]
          refine ⟨⟨by omega, by omega⟩, ⟨by omega, by omega⟩, _, c_Mo_hwAt hI (hw 326 _) hri, fun z g _ w => ?_⟩
          obtain ⟨rfl, r, w1, w2⟩ := w
          have hz := injI w1
          subst hz
          rw [← ha.1] at w2
          refine ⟨⟨by omega, by omega⟩, fun h2 k2 => ⟨⟨by omega, by omega⟩, fun h3 k3 => ⟨⟨by omega, by omega⟩, fun h4 k4 => ?_⟩⟩⟩
          have i3 : h2 327 p = g 327 p := by rw [k2, ft_hs_ne 327 (by omega)]
          have i4 : h3 328 p = g 328 p := by rw [k3, ft_hs_ne 328 (by omega), k2, ft_hs_ne 328 (by omega)]
          rw [i3] at k3
          rw [i4] at k4
          rcases w2 with ⟨r1, r2⟩ | ⟨q, r1, r2, r3, r4, r5⟩
          · rw [if_neg r2] at hl
            refine ⟨fun c => absurd c (by omega), fun _ => b_Mo_changesOne_162 (fun h5 k5 => ?_)⟩
            obtain ⟨f1, f2, f3, f4, f5, f6⟩ := rset k2 k3 k4 k5
            have hI5 : mcI h5 S P := mcI_fr hI (f1 310 (by omega)) (f1 311 (by omega)) (f2 4 (by omega))
            have g0 : h5 310 = g 310 := f1 310 (by omega)
            have ml5 : ft_ml h5 310 270 S.2.2.1.length = S.2.2.1 := by
              have := (mc_eq hI5).2.2.1
              have l4 := (mc_len hI5).2.1
              rw [show (h5 310 2).toNat = S.2.2.1.length by omega] at this
              exact this
            have hlt := tog_lt (kAt_in hp) r2
            rw [f3, f4, f5]
            refine ⟨fun c => absurd c (by omega), fun _ => ⟨_, c_Mo_putsHardware (o := 270) rfl (n := S.2.2.1.length) (by rw [g0, l2]) (by omega) (by rw [g0]; exact b6) (fun k hk => by rw [g0]; exact z5 k (by omega)) (by rw [ml5]; exact hH.2) hri (by
              rw [ml5, ← ha.1]
              exact fun x hx e => r2 (hasK_iff.mpr ⟨x, hx, e⟩)), fun h6 w => ?_⟩⟩
            obtain ⟨-, w1, w2, w3, w4, w5, w6⟩ := w
            have hI6 := mcI_hw hI5 w1 (n := S.2.2.1.length + 1) w3 (by omega) w2 w4 w6
            rw [w5, ml5, ← ha.1] at hI6
            refine Or.inr ⟨_, l, hl, rfl, ⟨fun c c1 c2 => by rw [w1 c c2, f1 c c1], fun j hj => by rw [w1 309 (by omega), f2 j hj]⟩, ?_, ?_⟩
            · unfold apC
              simp only
              rw [if_neg (by omega), ha.2.1]
              exact hI6
            · unfold mdI
              rw [w1 309 (by omega), f3, f4, f5, f6]
              simp only
              rw [ha.1, ha.2.1]
              exact ⟨by omega, by omega, trivial, rfl⟩
          · rw [if_pos r5] at hl
            refine ⟨fun _ => b_Mo_changesOne_162 (fun h5 k5 => ?_), fun c => absurd (by omega) c⟩
            obtain ⟨f1, f2, f3, f4, f5, f6⟩ := rset k2 k3 k4 k5
            have hI5 : mcI h5 S P := mcI_fr hI (f1 310 (by omega)) (f1 311 (by omega)) (f2 4 (by omega))
            have g0 : h5 310 = g 310 := f1 310 (by omega)
            have ml5 : ft_ml h5 310 270 S.2.2.1.length = S.2.2.1 := by
              have := (mc_eq hI5).2.2.1
              have l4 := (mc_len hI5).2.1
              rw [show (h5 310 2).toNat = S.2.2.1.length by omega] at this
              exact this
            have a1 := ix3 (o := 270) (i := q) (by omega)
            have a2 : ft_add ((270 + 3 * q : Nat) : Int) 2 = ((270 + 3 * q + 2 : Nat) : Int) := ix1 (d := 2) (by omega)
            have a3 : ft_add (ft_add 270 (ft_mul 3 (q : Int))) 2 = ((270 + 3 * q + 2 : Nat) : Int) := by
              rw [← a2, ← a1]
              rfl
            rw [r1, a3, Int.toNat_natCast, f5]
            refine ⟨fun _ => ⟨⟨by omega, by omega⟩, fun h6 k6 h7 k7 => ?_⟩, fun c => absurd (by omega) c⟩
            have v6 : h6 310 6 = g 310 6 := by rw [k6, ft_hs_j (by omega), g0]
            rw [v6, ft_add_eq (by unfold ft_in; omega)] at k7
            have w1 : ∀ c, c ≠ 310 → h7 c = h5 c := fun c hc => by rw [k7, ft_hs_ne c hc, k6, ft_hs_ne c hc]
            have wj : ∀ j, j ≠ 6 → j ≠ 270 + 3 * q + 2 → h7 310 j = h5 310 j := fun j j1 j2 => by rw [k7, ft_hs_j j1, k6, ft_hs_j j2]
            have wq : h7 310 (270 + 3 * q + 2) = g 328 p := by rw [k7, ft_hs_j (by omega), k6, ft_hs_same]
            have mls := ml_set (h := h5) (h' := h7) (n := S.2.2.1.length) (p := q) r2 (v := g 328 p) (fun j j1 j2 => wj j (by omega) j1) wq
            have hI7 := mcI_hw hI5 w1 (n := S.2.2.1.length) (by rw [wj 2 (by omega) (by omega), g0, l2]) (by omega) (fun j j1 j2 j3 => wj j j3 (by omega)) (by rw [k7, ft_hs_same, g0]) (fun k hk => by
              rw [wj (270 + 3 * k + 1) (by omega) (by omega), g0]
              exact z5 k (by omega))
            have hx := hw_at hI5 r2
            have hkq : kAt S.2.2.1 q = kAt T p := (kAt_of r4).1
            rw [show 271 + 3 * q = 270 + 3 * q + 1 by omega, hkq] at hx
            rw [mls, ml5, ← hx.1, ← ha.2.1] at hI7
            refine Or.inr ⟨_, l, hl, rfl, ⟨fun c c1 c2 => by rw [w1 c c2, f1 c c1], fun j hj => by rw [w1 309 (by omega), f2 j hj]⟩, ?_, ?_⟩
            · unfold apC
              simp only
              rw [if_neg (by omega), insK_set (kAt T p) (vAt T p) S.2.2.1 q _ r4 rfl (fun j y hj hy => by
                have h1 := kAt_lt2 hH hj r2
                have h2 := (kAt_of hy).1
                omega)]
              exact hI7
            · unfold mdI
              rw [w1 309 (by omega), f3, f4, f5, f6]
              simp only
              rw [ha.1, ha.2.1]
              exact ⟨by omega, by omega, trivial, rfl⟩
      · rcases w with ⟨-, w, -⟩ | ⟨x, l, -, w, -⟩
        · exact Or.inl (injI w)
        · exact Or.inr (injI w)
    | succ m ih =>
      intro i hm
      have hi := ih (i + 1) (by omega)
      rw [cb] at hi
      have ha := tgI_at ht (show i < T.length by omega)
      have hri := ht.2.2 i (by omega)
      have go60 : ¬ (kAt T i, vAt T i) ∈ S.2.2.1 → ft_V k_Mo_changesOne 60 [some (.inr (.inr 309)), some (.inl (cb S.2.2.1 T i)), some (.inl (i : Int)), none] [] h (chR h S P T) := fun hn => by
        refine b_Mo_changesOne_60 ⟨fun c => b_Mo_changesOne_79 (b_Mo_changesOne_81 ?_), fun c => ?_⟩
        · rw [if_pos ⟨hn, Or.inl c⟩] at hi
          rw [inc1 (by omega)]
          exact hi
        · rcases cb_spec (H := S.2.2.1) (T := T) i with ⟨e2, -⟩ | ⟨p, hp, e2, -, -⟩
          · omega
          · have hy := tgI_at ht (show p < T.length by omega)
            have hrp := ht.2.2 p (by omega)
            rw [e2, Int.toNat_natCast] at hi ⊢
            rw [Int.toNat_natCast]
            refine ⟨⟨by omega, by omega⟩, ⟨by omega, by omega⟩, fun t => b_Mo_changesOne_81 ?_, fun t => b_Mo_changesOne_79 (b_Mo_changesOne_81 ?_)⟩
            · rw [if_neg (by
                rintro ⟨-, a | a⟩
                · omega
                · rw [ha.1, hy.1] at a; omega)] at hi
              rw [inc1 (by omega)]
              exact hi
            · rw [if_pos ⟨hn, Or.inr (by rw [ha.1, hy.1]; omega)⟩] at hi
              rw [inc1 (by omega)]
              exact hi
      refine b_Mo_changesOne_5 ⟨fun c => absurd c (by rw [ht.1]; omega), fun _ => ⟨⟨by omega, by omega⟩, ⟨by omega, by omega⟩, _, c_Mo_hwAt hI (hw 326 _) (by rw [Int.toNat_natCast]; exact hri), fun z g _ w => ?_⟩⟩
      obtain ⟨rfl, r, w1, w2⟩ := w
      have hz := injI w1
      subst hz
      rw [Int.toNat_natCast, ← ha.1] at w2
      rw [Int.toNat_natCast, ← ha.2.1]
      rcases w2 with ⟨r1, r2⟩ | ⟨q, r1, r2, r3, r4, r5⟩
      · exact ⟨fun _ => go60 (fun t => r2 (hasK_iff.mpr ⟨_, t, rfl⟩)), fun c => absurd (by omega) c⟩
      · rw [r1, Int.toNat_natCast]
        refine ⟨fun c => absurd c (by omega), fun _ => ⟨⟨by omega, by omega⟩, ⟨by omega, by omega⟩, fun t => go60 (fun s => t ?_), fun t => b_Mo_changesOne_81 ?_⟩⟩
        · have := key_eq hH s (List.mem_of_getElem? r4) rfl
          exact (congrArg Prod.snd this).symm
        · rw [t] at r4
          rw [if_neg (fun s => s.1 (List.mem_of_getElem? r4))] at hi
          rw [inc1 (by omega)]
          exact hi
  exact loop T.length 0 (by omega)
