/-! removing a route, on both sides -/
def aRem (v l : Int) (S : ftS) : Int × Option ftS :=
  if ¬ ((0 ≤ l ∧ l ≤ 32) ∧ pUn v % pSz l = 0) then (-1, none)
  else if ∀ q ∈ S.2.1, q.1 ≠ kOf v l then (-2, none)
  else ((hwChange (kOf v l) (2 * S.1) S.2.2.1 S.2.2.2.2).2.2, some (S.1, S.2.1.filter (fun q => q.1 != kOf v l), (hwChange (kOf v l) (2 * S.1) S.2.2.1 S.2.2.2.2).1, S.2.2.2.1, (hwChange (kOf v l) (2 * S.1) S.2.2.1 S.2.2.2.2).2.1))
theorem erase_filter {key : Int} : ∀ {L : List (Int × Int)} {p : Nat} {q : Int × Int}, L.Pairwise (fun a b => a.1 < b.1) → L[p]? = some q → q.1 = key → L.eraseIdx p = L.filter (fun q => q.1 != key)
  | [], p, q, _, h, _ => by simp at h
  | a :: L, 0, q, hp, h, hk => by
    simp only [List.getElem?_cons_zero, Option.some.injEq] at h
    subst h
    rw [List.pairwise_cons] at hp
    rw [List.eraseIdx_cons_zero, List.filter_cons, if_neg (by simp [hk])]
    symm
    rw [List.filter_eq_self]
    intro b hb
    have := hp.1 b hb
    simp
    omega
  | a :: L, p + 1, q, hp, h, hk => by
    rw [List.getElem?_cons_succ] at h
    rw [List.pairwise_cons] at hp
    have := hp.1 q (List.mem_of_getElem? h)
    rw [List.eraseIdx_cons_succ, List.filter_cons, if_pos (by simp; omega), erase_filter hp.2 h hk]
theorem d_Mo_removeRoute {h : ftH} {S : ftS} {P : List ftS} (hI : mcI h S P) {B : Int} (hB : B ≤ 1000000000) (hok : sOk B S) {v l : Int} (hv : ft_in v) : ft_C k_Mo_removeRoute [.inr (.inr 309), .inl v, .inl l] h (fun r h' => r = some (.inl (aRem v l S).1) ∧ (∀ c, c ≠ 309 → c ≠ 310 → c ≠ 311 → h' c = h c) ∧ ((aRem v l S).2 = none ∧ h' = h ∨ ∃ S', (aRem v l S).2 = some S' ∧ (∀ j, j ≠ 4 → j ≠ 20 → h' 309 j = h 309 j) ∧ h' 309 20 = 0 ∧ mcI h' S' ((S :: P).take 8))) := by
  have hI2 := hI
  obtain ⟨⟨z, s⟩, h4, hP, hd⟩ := hI
  obtain ⟨z1, z2, z3, z4, z5⟩ := ft_mz_0.mp z
  have s' := s
  rw [ft_ma_0] at s'
  have hS1 : S.2.1 = ft_ml h 310 10 (h 310 0).toNat := by rw [← s']
  obtain ⟨n, hn⟩ : ∃ n : Nat, h 310 0 = n := ⟨(h 310 0).toNat, by omega⟩
  have hn2 : (h 310 0).toNat = n := by omega
  rw [hn2] at hS1
  have hL := hok.2.1.1
  refine ft_enter (n := 2) rfl (Nat.le_of_ble_eq_true rfl) rfl (b_Mo_removeRoute_0 ⟨fun c => ?_, fun c => ?_⟩)
  · rw [hn]
    refine ⟨_, c_Mo_placeOf (o := 10) (n := n) (by omega) (fun k hk => z4 k (by omega)) hv c.1, fun r7 h1 _ hw => ?_⟩
    obtain ⟨rfl, r, hz, hr⟩ := hw
    cases hz
    rw [← hS1] at hr
    rcases hr with ⟨rfl, hr⟩ | ⟨p, q, rfl, hp, hq, hqk⟩
    · refine ⟨fun q => absurd q (by decide), fun _ => ?_⟩
      have hr2 : ∀ q ∈ S.2.1, q.1 ≠ kOf v l := hr
      have e : aRem v l S = (-2, none) := by unfold aRem; rw [if_neg (fun w => w c), if_pos hr2]
      rw [e]
      exact ⟨rfl, fun _ _ _ _ => rfl, Or.inl ⟨rfl, rfl⟩⟩
    · refine ⟨fun _ => ⟨_, d_Mo_keepsPast hI2, fun g hw => ?_⟩, fun q => absurd (by omega) q⟩
      have e : aRem v l S = ((hwChange (kOf v l) (2 * S.1) S.2.2.1 S.2.2.2.2).2.2, some (S.1, S.2.1.filter (fun q => q.1 != kOf v l), (hwChange (kOf v l) (2 * S.1) S.2.2.1 S.2.2.2.2).1, S.2.2.2.1, (hwChange (kOf v l) (2 * S.1) S.2.2.1 S.2.2.2.2).2.1)) := by
        unfold aRem
        rw [if_neg (fun w => w c), if_neg (fun w => w q (List.mem_of_getElem? hq) hqk)]
      rw [e]
      obtain ⟨-, g1, g2, g3, gI⟩ := hw
      have g310 : g 310 = h1 310 := g1 310 (by omega) (by omega)
      have hmlg : ft_ml g 310 10 n = S.2.1 := by rw [hS1]; exact ft_ml_mv (fun j _ => by rw [g310])
      rw [g310, hn]
      refine ⟨_, c_Mo_takesOut (o := 10) (n := n) (by omega) hp (fun k hk => by rw [g310]; exact z4 k (by omega)), fun h2 hw h3 e3 n10 e10 => ?_⟩
      obtain ⟨-, f1, f2, f3, f4⟩ := hw
      rw [hmlg, erase_filter (key := kOf v l) hL.2 hq hqk] at f3
      have k0 : h2 310 0 = n := by rw [f2 0 (by omega), g310, hn]
      rw [k0, ft_sub_eq ⟨by omega, by omega⟩] at e3
      have fj : ∀ j, j ≠ 0 → h3 310 j = h2 310 j := fun j hj => by rw [e3, ft_hs_j hj]
      have k3 : h3 310 0 = ((n - 1 : Nat) : Int) := by rw [e3, ft_hs_same]; omega
      have fo : ∀ j, 1 ≤ j → j < 10 ∨ 10 + 3 * n ≤ j → h3 310 j = h1 310 j := fun j j1 j2 => by rw [fj j (by omega), f2 j (by omega), g310]
      have fall : ∀ c, c ≠ 310 → h3 c = g c := fun c hc => by rw [e3, ft_hs_ne c hc, f1 c hc]
      have q1 : ft_ml h3 310 10 (n - 1) = S.2.1.filter (fun q => q.1 != kOf v l) := by
        rw [← f3]
        exact ft_ml_mv (fun j _ => fj _ (by omega))
      have hflen : (S.2.1.filter (fun q => q.1 != kOf v l)).length = n - 1 := by rw [← q1, ft_ml_len]
      have gI3 : mcI h3 (S.1, S.2.1.filter (fun q => q.1 != kOf v l), S.2.2.1, S.2.2.2.1, S.2.2.2.2) ((S :: P).take 8) := by
        refine mcI_310 gI fall (ft_mz_0.mpr ⟨by rw [k3]; omega, by rw [fo 2 (by omega) (by omega)]; exact z2, by rw [fo 1 (by omega) (by omega)]; exact z3, fun k hk => by rw [fj _ (by omega)]; exact f4 k (by omega), fun k hk => ?_⟩) ?_
        · rw [fo 2 (by omega) (by omega)] at hk
          rw [fo _ (by omega) (by omega)]
          exact z5 k hk
        · rw [ft_ma_0, k3, Int.toNat_natCast, fo 1 (by omega) (by omega), fo 2 (by omega) (by omega), fo 3 (by omega) (by omega)]
          have q2 : ft_ml h3 310 270 (h1 310 2).toNat = ft_ml h1 310 270 (h1 310 2).toNat := ft_ml_mv (fun j _ => fo _ (by omega) (by omega))
          have q3 : ft_gl h3 310 190 (h1 310 1).toNat = ft_gl h1 310 190 (h1 310 1).toNat := ft_gl_mv (fun j _ => fo _ (by omega) (by omega))
          have q4 : ft_mc h3 = ft_mc h1 := by
            unfold ft_mc
            rw [fo 4 (by omega) (by omega), fo 5 (by omega) (by omega), fo 6 (by omega) (by omega), fo 7 (by omega) (by omega), fo 8 (by omega) (by omega)]
          rw [q1, q2, q3, q4, ← s']
      have hok2 : sOk B (S.1, S.2.1.filter (fun q => q.1 != kOf v l), S.2.2.1, S.2.2.2.1, S.2.2.2.2) := ⟨hok.1, ⟨lOk_filter hL, fun q hq => hok.2.1.2.1 q (List.mem_filter.mp hq).1, Nat.le_trans (List.length_filter_le _ _) hok.2.1.2.2⟩, hok.2.2.1, hok.2.2.2.1, hok.2.2.2.2⟩
      refine ⟨_, v_Mo_changed hB gI3.1.1 gI3.1.2 hok2 c.1 c.2, fun h5 hw => ?_⟩
      obtain ⟨-, y1, y2, y3, y4⟩ := hw
      simp only at y3 y4
      have hw9 := hwChange_ok (kOf_pK c.1 c.2) hok.2.2.1.1 hok.2.2.1.2 (by have := hok.1; omega) hok.2.2.2.2
      have hg6 : 0 ≤ h3 310 6 ∧ h3 310 6 ≤ B := by
        have hm := gI3.1.2
        rw [ft_ma_0] at hm
        have h5' : ft_mc h3 = S.2.2.2.2 := congrArg (fun s : ftS => s.2.2.2.2) hm
        exact hok.2.2.2.2.2 _ (by rw [← h5']; simp [ft_mc])
      refine ⟨?_, fun c c1 c2 c3 => by rw [y1 c c2, fall c c2, g1 c c1 c3], Or.inr ⟨_, rfl, fun j j1 j2 => by rw [y1 309 (by omega), fall 309 (by omega), g2 j j1 j2], by rw [y1 309 (by omega), fall 309 (by omega), g3], mcI_310 gI3 y1 y2 y3⟩⟩
      rw [e10, y4, ft_sub_eq ⟨by omega, by omega⟩]
      refine congrArg some (congrArg Sum.inl ?_)
      omega
  · have e : aRem v l S = (-1, none) := by unfold aRem; rw [if_pos c]
    rw [e]
    exact ⟨rfl, fun _ _ _ _ => rfl, Or.inl ⟨rfl, rfl⟩⟩
/-- the class's way behind a change of the routes' list -/
theorem v_FT_tail {h1 h2 h3 : ftH} {S : ftS} {L' : List (Int × Int)} {P' : List ftS} (gI : ccI h2 S P') {B : Int} (hB : B ≤ 1000000000) (hok : sOk B S) {key : Int} (hK : pK key) (f2 : ∀ k, k ≠ 23 → (k < 25 ∨ 113 ≤ k) → h2 k = h1 k) (f3 : ∀ k, k < 2 ∨ 2 + 3 ≤ k → h3 k = h2 k) (g3 : 0 ≤ h3 2 2 ∧ h3 2 2 ≤ 60) (l3 : ft_pl h3 2 = L') {R : Option ftV → ftH → Prop}
    (hk : ∀ h5 : ftH, cFr h1 h5 → h5 0 5 = min (h1 0 5) 0 → h5 294 2 = -1 → ccI h5 (S.1, L', (hwChange key (2 * S.1) S.2.2.1 S.2.2.2.2).1, S.2.2.2.1, (hwChange key (2 * S.1) S.2.2.1 S.2.2.2.2).2.1) P' → R (some (.inl (hwChange key (2 * S.1) S.2.2.1 S.2.2.2.2).2.2)) h5) :
    ∃ R13 : Option ftV → ftH → Prop, ft_C k_FT_unsettle [.inr (.inr 0), .inl 0] h3 R13 ∧ ∀ h4 : ftH, R13 none h4 → (∃ R15 : Option ftV → ftH → Prop, ft_C k_St_routeChanged [.inr (.inr 1), .inr (.inl key)] h4 R15 ∧ ∀ (z17 : Int) (h5 : ftH), ft_in z17 → R15 (some (.inl z17)) h5 → R (some (.inl z17)) h5) := by
  obtain ⟨q1, q2, q3⟩ := cc_ps gI hok
  have s2 := gI.1.2
  rw [ft_sa_1] at s2
  refine ⟨_, c_FT_unsettle, fun h4 hw => ?_⟩
  obtain ⟨-, f4, u1, u2, u3, u4⟩ := hw
  have s4' : (h4 1 0, ft_pl h4 2, ft_pl h4 5, ft_pl h4 8, ft_ct h4 11) = (S.1, L', S.2.2.1, S.2.2.2.1, S.2.2.2.2) := by
    rw [f4 1 (by omega) (by omega), f3 1 (by omega), ft_pl_same (h := h3) (a := 2) (f4 _ (by omega) (by omega)) (f4 _ (by omega) (by omega)) (f4 _ (by omega) (by omega)), l3,
      ft_pl_same (h := h2) (a := 5) ((f4 _ (by omega) (by omega)).trans (f3 _ (by omega))) ((f4 _ (by omega) (by omega)).trans (f3 _ (by omega))) ((f4 _ (by omega) (by omega)).trans (f3 _ (by omega))),
      ft_pl_same (h := h2) (a := 8) ((f4 _ (by omega) (by omega)).trans (f3 _ (by omega))) ((f4 _ (by omega) (by omega)).trans (f3 _ (by omega))) ((f4 _ (by omega) (by omega)).trans (f3 _ (by omega))),
      ft_ct_same (h := h2) ((f4 11 (by omega) (by omega)).trans (f3 11 (by omega)))]
    rw [← s2]
  have e5 : h4 5 = h2 5 := (f4 5 (by omega) (by omega)).trans (f3 5 (by omega))
  have e8 : h4 8 = h2 8 := (f4 8 (by omega) (by omega)).trans (f3 8 (by omega))
  have e2 : h4 2 = h3 2 := f4 2 (by omega) (by omega)
  have w0 : h4 1 0 = S.1 := congrArg (fun s : ftS => s.1) s4'
  have w1 : ft_pl h4 2 = L' := congrArg (fun s : ftS => s.2.1) s4'
  have w2 : ft_pl h4 5 = S.2.2.1 := congrArg (fun s : ftS => s.2.2.1) s4'
  have w3 : ft_pl h4 8 = S.2.2.2.1 := congrArg (fun s : ftS => s.2.2.2.1) s4'
  have w4 : ft_ct h4 11 = S.2.2.2.2 := congrArg (fun s : ftS => s.2.2.2.2) s4'
  have hp4 : ft_ps h4 5 := ft_ps_of (by rw [e5]; exact q2.1) (by rw [w2]; exact hok.2.2.1.1)
  have hr4 : h4 5 2 ≤ 2 * h4 1 0 := by
    have := hok.2.2.1.2
    rw [← w2, ft_pl_len, ← w0] at this
    have := hp4.1
    omega
  refine ⟨_, c_St_routeChanged (a := 1) sh_1 hp4 (by rw [w0]; exact hok.1) hr4 (fun y hy => by rw [w4] at hy; exact ⟨(hok.2.2.2.2.2 y hy).1, Int.le_trans (hok.2.2.2.2.2 y hy).2 hB⟩) hK, fun z17 h5 _ hw => ?_⟩
  obtain ⟨f5, b5, l5, c5, r5⟩ := hw
  rw [show ft_pl h4 (1 + 4) = S.2.2.1 from w2, show ft_ct h4 (1 + 10) = S.2.2.2.2 from w4, w0] at l5 c5 r5
  have l5' : ft_pl h5 5 = (hwChange key (2 * S.1) S.2.2.1 S.2.2.2.2).1 := l5
  have c5' : ft_ct h5 11 = (hwChange key (2 * S.1) S.2.2.1 S.2.2.2.2).2.1 := c5
  have fa : ∀ k, 12 ≤ k → k ≠ 294 → h5 k = h2 k := fun k k1 k2 => by rw [f5 k (by omega), f4 k (by omega) k2, f3 k (by omega)]
  rw [r5]
  refine hk h5 ⟨fun k k0 k1 k2 k3 => by rw [f5 k (by omega), f4 k k0 k1, f3 k (by omega), f2 k k2 (by omega)], fun j hj => by rw [f5 0 (by omega), u1 j hj, f3 0 (by omega), f2 0 (by omega) (by omega)], fun j hj => by rw [f5 294 (by omega), u2 j hj, f3 294 (by omega), f2 294 (by omega) (by omega)]⟩ (by rw [f5 0 (by omega), u3, f3 0 (by omega), f2 0 (by omega) (by omega)]) (by rw [f5 294 (by omega), u4]) (ccI_st gI fa ⟨?_, ?_, ?_⟩ ?_)
  · rw [f5 (1 + 1) (by omega), show h4 (1 + 1) = h3 2 from e2]
    exact g3
  · have := hok.1
    rw [← w0] at this
    exact ⟨b5.1, by have := b5.2; omega⟩
  · rw [f5 (1 + 7) (by omega), show h4 (1 + 7) = h2 8 from e8]
    exact q3.1
  · rw [ft_sa_1, l5', c5', f5 1 (by omega), w0, ft_pl_same (h := h4) (a := 2) (f5 _ (by omega)) (f5 _ (by omega)) (f5 _ (by omega)), ft_pl_same (h := h4) (a := 8) (f5 _ (by omega)) (f5 _ (by omega)) (f5 _ (by omega)), w1, w3]
theorem d_FT_removeRoute {h : ftH} {S : ftS} {P : List ftS} (hI : ccI h S P) {B : Int} (hB : B ≤ 1000000000) (hok : sOk B S) {v l : Int} : ft_C k_FT_removeRoute [.inr (.inr 0), .inl v, .inl l] h (fun r h' => r = some (.inl (aRem v l S).1) ∧ cFr h h' ∧ ((aRem v l S).2 = none ∧ h' = h ∨ ∃ S', (aRem v l S).2 = some S' ∧ h' 0 5 = min (h 0 5) 0 ∧ h' 294 2 = -1 ∧ ccI h' S' ((S :: P).take 8))) := by
  obtain ⟨p1, p2, p3⟩ := cc_ps hI hok
  have s := hI.1.2
  rw [ft_sa_1] at s
  have hS1 : S.2.1 = ft_pl h 2 := by rw [← s]
  have hL := hok.2.1.1
  have same : cFr h h := ⟨fun _ _ _ _ _ => rfl, fun _ _ => rfl, fun _ _ => rfl⟩
  refine ft_enter (n := 3) rfl (Nat.le_of_ble_eq_true rfl) rfl (b_FT_removeRoute_0 ⟨fun c => ⟨⟨pUn_rng v, c.1⟩, fun key ek => ?_⟩, fun c => ?_⟩)
  · have ek2 : key = kOf v l := ek
    subst ek2
    refine ⟨_, c_PS_indexOf (a := 2) (shc_6_1 sh_1) p1, fun z8 h1 _ hw => ?_⟩
    obtain ⟨rfl, hr⟩ := hw
    rcases hr with ⟨hz, hr⟩ | ⟨p, hz, hp, hpk⟩
    · cases hz
      have hr2 : ∀ q ∈ S.2.1, q.1 ≠ kOf v l := by rw [hS1]; exact pl_ne hr
      refine ⟨fun q => absurd q (by decide), fun _ => ?_⟩
      have e : aRem v l S = (-2, none) := by unfold aRem; rw [if_neg (fun w => w c), if_pos hr2]
      rw [e]
      exact ⟨rfl, same, Or.inl ⟨rfl, rfl⟩⟩
    · cases hz
      have hget : S.2.1[p]? = some (kOf v l, h1 4 p) := by rw [hS1, ft_pl_get hp, hpk]
      refine ⟨fun _ => ⟨_, d_Hi_save hI, fun h2 hw => ?_⟩, fun q => absurd (by omega) q⟩
      obtain ⟨-, f2, gI⟩ := hw
      obtain ⟨q1, q2, q3⟩ := cc_ps gI hok
      have s2 := gI.1.2
      rw [ft_sa_1] at s2
      have hpl2 : ft_pl h2 2 = S.2.1 := by rw [← s2]
      have e22 : h2 2 = h1 2 := f2 2 (by omega) (by omega)
      have hb := q1.1
      rw [show ft_ln (2 + 1) = 60 from ft_ln_3] at hb
      refine ⟨_, c_PS_removeAt (a := 2) (shc_6_1 sh_1) q1 (i := p) (by rw [e22]; exact hp), fun h3 hw => ?_⟩
      obtain ⟨-, f3, g3, l3⟩ := hw
      have hp2 : (p : Int) < h2 2 2 := by rw [e22]; exact hp
      rw [hpl2, erase_filter (key := kOf v l) hL.2 hget rfl] at l3
      have e : aRem v l S = ((hwChange (kOf v l) (2 * S.1) S.2.2.1 S.2.2.2.2).2.2, some (S.1, S.2.1.filter (fun q => q.1 != kOf v l), (hwChange (kOf v l) (2 * S.1) S.2.2.1 S.2.2.2.2).1, S.2.2.2.1, (hwChange (kOf v l) (2 * S.1) S.2.2.1 S.2.2.2.2).2.1)) := by
        unfold aRem
        rw [if_neg (fun w => w c), if_neg (fun w => w _ (List.mem_of_getElem? hget) rfl)]
      rw [e]
      exact v_FT_tail gI hB hok (kOf_pK c.1 c.2) f2 f3 (by omega) l3 (R := fun r h' => r = some (.inl ((hwChange (kOf v l) (2 * S.1) S.2.2.1 S.2.2.2.2).2.2, some (S.1, S.2.1.filter (fun q => q.1 != kOf v l), (hwChange (kOf v l) (2 * S.1) S.2.2.1 S.2.2.2.2).1, S.2.2.2.1, (hwChange (kOf v l) (2 * S.1) S.2.2.1 S.2.2.2.2).2.1)).1) ∧ cFr h1 h' ∧ (((hwChange (kOf v l) (2 * S.1) S.2.2.1 S.2.2.2.2).2.2, (some (S.1, S.2.1.filter (fun q => q.1 != kOf v l), (hwChange (kOf v l) (2 * S.1) S.2.2.1 S.2.2.2.2).1, S.2.2.2.1, (hwChange (kOf v l) (2 * S.1) S.2.2.1 S.2.2.2.2).2.1) : Option ftS)).2 = none ∧ h' = h1 ∨ ∃ S', ((hwChange (kOf v l) (2 * S.1) S.2.2.1 S.2.2.2.2).2.2, some (S.1, S.2.1.filter (fun q => q.1 != kOf v l), (hwChange (kOf v l) (2 * S.1) S.2.2.1 S.2.2.2.2).1, S.2.2.2.1, (hwChange (kOf v l) (2 * S.1) S.2.2.1 S.2.2.2.2).2.1)).2 = some S' ∧ h' 0 5 = min (h1 0 5) 0 ∧ h' 294 2 = -1 ∧ ccI h' S' ((S :: P).take 8))) (fun h5 y1 y2 y3 y4 => ⟨rfl, y1, Or.inr ⟨_, rfl, y2, y3, y4⟩⟩)
  · have e : aRem v l S = (-1, none) := by unfold aRem; rw [if_pos c]
    rw [e]
    exact ⟨rfl, same, Or.inl ⟨rfl, rfl⟩⟩
