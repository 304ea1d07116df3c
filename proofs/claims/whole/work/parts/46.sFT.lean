/-! THE CLASS'S FACE: routes -/
theorem c_FT_unsettle {h : ftH} {n : Int} : ft_C k_FT_unsettle [.inr (.inr 0), .inl n] h (fun r h' => r = none ∧ (∀ k, k ≠ 0 → k ≠ 294 → h' k = h k) ∧ (∀ j, j ≠ 5 → h' 0 j = h 0 j) ∧ (∀ j, j ≠ 2 → h' 294 j = h 294 j) ∧ h' 0 5 = min (h 0 5) n ∧ h' 294 2 = -1) :=
  ft_enter (n := 0) rfl (Nat.le_of_ble_eq_true rfl) rfl (b_FT_unsettle_0 (fun h1 e1 h2 e2 => ⟨rfl, fun k k1 k2 => by rw [e2, ft_hs_ne k k2, e1, ft_hs_ne k k1], fun j hj => by rw [e2, ft_hs_ne 0 (by omega), e1, ft_hs_j hj], fun j hj => by rw [e2, ft_hs_j hj, e1, ft_hs_ne 294 (by omega)], by rw [e2, ft_hs_ne 0 (by omega), e1, ft_hs_same], by rw [e2, ft_hs_same]⟩))
/-- what no change of the state touches: the tape, what is worked out, the rooms; of the object and of the report all but what unsettle writes -/
def cFr (h h' : ftH) : Prop := (∀ k, k ≠ 0 → k ≠ 294 → k ≠ 23 → (12 ≤ k ∧ k < 25 ∨ 113 ≤ k) → h' k = h k) ∧ (∀ j, j ≠ 5 → h' 0 j = h 0 j) ∧ (∀ j, j ≠ 2 → h' 294 j = h 294 j)
theorem ft_sa_1 {h : ftH} : ft_sa h 1 = (h 1 0, ft_pl h 2, ft_pl h 5, ft_pl h 8, ft_ct h 11) := rfl
theorem ft_ln_3 : ft_ln 3 = 60 := (ft_ln_st sh_1).1
theorem ft_ln_6 : ft_ln 6 = 80 := (ft_ln_st sh_1).2
theorem cc_ps {h : ftH} {S : ftS} {P : List ftS} (hI : ccI h S P) {B : Int} (hok : sOk B S) : ft_ps h 2 ∧ ft_ps h 5 ∧ ft_tw h 8 := by
  obtain ⟨⟨z, s⟩, -⟩ := hI
  rw [ft_sa_1] at s
  subst s
  obtain ⟨z1, z2, z3⟩ := z
  obtain ⟨o1, o2, o3, o4, o5⟩ := hok
  refine ⟨ft_ps_of ?_ o2.1, ft_ps_of ?_ o3.1, ft_tw_of z3.1 o4⟩
  · rw [show ft_ln (2 + 1) = 60 from ft_ln_3]
    exact z1
  · rw [show ft_ln (5 + 1) = 80 from ft_ln_6]
    exact z2
theorem ccI_st {h h' : ftH} {S S' : ftS} {P : List ftS} (hI : ccI h S P) (hf : ∀ k, 12 ≤ k → k ≠ 294 → h' k = h k) (hz : ft_sz h' 1) (hs : ft_sa h' 1 = S') : ccI h' S' P := by
  obtain ⟨-, p, hp, h2, h1, hP, hd⟩ := hI
  refine ⟨⟨hz, hs⟩, p, hp, by rw [hf 23 (by omega) (by omega), h2], by rw [hf 23 (by omega) (by omega), h1], hP, fun d X hX => ?_⟩
  have h9 := hd d X hX
  have hk : ∀ k, slot ((p + 7 - d) % 8) ≤ k → k < slot ((p + 7 - d) % 8) + 11 → h' k = h k := fun k k1 k2 => hf k (by unfold slot at k1; omega) (by unfold slot at k2; omega)
  exact ⟨ft_sz_same hk h9.1, by rw [ft_sa_same hk, h9.2]⟩
theorem d_FT_addRoute {h : ftH} {S : ftS} {P : List ftS} (hI : ccI h S P) {B : Int} (hB : B ≤ 1000000000) (hok : sOk B S) {v l x : Int} : ft_C k_FT_addRoute [.inr (.inr 0), .inl v, .inl l, .inl x] h (fun r h' => r = some (.inl (aAdd v l x S).1) ∧ cFr h h' ∧ ((aAdd v l x S).2 = none ∧ h' = h ∨ ∃ S', (aAdd v l x S).2 = some S' ∧ h' 0 5 = min (h 0 5) 0 ∧ h' 294 2 = -1 ∧ ccI h' S' ((S :: P).take 8))) := by
  obtain ⟨p1, p2, p3⟩ := cc_ps hI hok
  have hI2 := hI
  obtain ⟨⟨z, s⟩, -⟩ := hI
  rw [ft_sa_1] at s
  have hS1 : S.2.1 = ft_pl h 2 := by rw [← s]
  have hlen : (S.2.1.length : Int) = h 2 2 := by rw [hS1, ft_pl_len]; have := p1.1; omega
  have hL := hok.2.1.1
  have same : cFr h h := ⟨fun _ _ _ _ _ => rfl, fun _ _ => rfl, fun _ _ => rfl⟩
  have bad : aAdd v l x S = (-1, none) → ((some (.inl (-1)) : Option ftV) = some (.inl (aAdd v l x S).1) ∧ cFr h h ∧ ((aAdd v l x S).2 = none ∧ h = h ∨ ∃ S', (aAdd v l x S).2 = some S' ∧ h 0 5 = min (h 0 5) 0 ∧ h 294 2 = -1 ∧ ccI h S' ((S :: P).take 8))) := fun e => by
    rw [e]
    exact ⟨rfl, same, Or.inl ⟨rfl, rfl⟩⟩
  refine ft_enter (n := 3) rfl (Nat.le_of_ble_eq_true rfl) rfl (b_FT_addRoute_0 ⟨fun c => bad ?_, fun c => ⟨fun d => bad ?_, fun d0 => ⟨fun d1 => ⟨⟨pUn_rng v, c.1⟩, fun key ek => ?_⟩, fun d => bad ?_⟩⟩⟩)
  · unfold aAdd; rw [if_pos (Or.inl c)]
  · unfold aAdd; rw [if_pos (Or.inr (by omega))]
  · have d : 0 ≤ x ∧ x ≤ 15 := ⟨by omega, d1⟩
    have hc1 : ¬ (¬ ((0 ≤ l ∧ l ≤ 32) ∧ pUn v % pSz l = 0) ∨ ¬ (0 ≤ x ∧ x ≤ 15)) := fun q => q.elim (fun q => q c) (fun q => q d)
    have ek2 : key = kOf v l := ek
    subst ek2
    have hK := kOf_pK c.1 c.2
    refine ⟨_, c_PS_indexOf (a := 2) (shc_6_1 sh_1) p1, fun z8 h1 _ hw => ?_⟩
    obtain ⟨rfl, hr⟩ := hw
    have go : (kOf v l, x) ∉ S.2.1 → ¬ ((∀ q ∈ S.2.1, q.1 ≠ kOf v l) ∧ 60 ≤ S.2.1.length) → (∃ R9 : Option ftV → ftH → Prop, ft_C k_Hi_save [.inr (.inr 23), .inr (.inr 1)] h1 R9 ∧ ∀ h2 : ftH, R9 none h2 → (∃ R11 : Option ftV → ftH → Prop, ft_C k_PS_put [.inr (.inr 2), .inr (.inl (kOf v l)), .inl x] h2 R11 ∧ ∀ h3 : ftH, R11 none h3 → (∃ R13 : Option ftV → ftH → Prop, ft_C k_FT_unsettle [.inr (.inr 0), .inl 0] h3 R13 ∧ ∀ h4 : ftH, R13 none h4 → (∃ R15 : Option ftV → ftH → Prop, ft_C k_St_routeChanged [.inr (.inr 1), .inr (.inl (kOf v l))] h4 R15 ∧ ∀ (z17 : Int) (h5 : ftH), ft_in z17 → R15 (some (.inl z17)) h5 → ((some (.inl z17) : Option ftV) = some (.inl (aAdd v l x S).1) ∧ cFr h1 h5 ∧ ((aAdd v l x S).2 = none ∧ h5 = h1 ∨ ∃ S', (aAdd v l x S).2 = some S' ∧ h5 0 5 = min (h1 0 5) 0 ∧ h5 294 2 = -1 ∧ ccI h5 S' ((S :: P).take 8))))))) := by
      intro hc2 hc3
      have e : aAdd v l x S = ((hwChange (kOf v l) (2 * S.1) S.2.2.1 S.2.2.2.2).2.2, some (S.1, insK (kOf v l) x S.2.1, (hwChange (kOf v l) (2 * S.1) S.2.2.1 S.2.2.2.2).1, S.2.2.2.1, (hwChange (kOf v l) (2 * S.1) S.2.2.1 S.2.2.2.2).2.1)) := by
        unfold aAdd
        rw [if_neg hc1, if_neg hc2, if_neg hc3]
      rw [e]
      refine ⟨_, d_Hi_save hI2, fun h2 hw => ?_⟩
      obtain ⟨-, f2, gI⟩ := hw
      obtain ⟨q1, q2, q3⟩ := cc_ps gI hok
      have fs2 : ∀ k, k < 12 → h2 k = h1 k := fun k hk => f2 k (by omega) (by omega)
      refine ⟨_, c_PS_put (a := 2) (shc_6_1 sh_1) q1, fun h3 hw => ?_⟩
      obtain ⟨-, f3, g3, l3, -⟩ := hw
      rw [show ft_ln (2 + 1) = 60 from ft_ln_3] at g3 l3
      have s2 := gI.1.2
      rw [ft_sa_1] at s2
      have hpl2 : ft_pl h2 2 = S.2.1 := by rw [← s2]
      have hlen2 : (S.2.1.length : Int) = h2 2 2 := by rw [← hpl2, ft_pl_len]; have := q1.1; omega
      have l3' : ft_pl h3 2 = insK (kOf v l) x S.2.1 := by
        rw [← hpl2]
        refine l3 ?_
        by_cases q : h2 2 2 < (60 : Nat)
        · exact Or.inl q
        · by_cases w : ∃ j : Nat, (j : Int) < h2 2 2 ∧ h2 (2 + 1) j = kOf v l
          · exact Or.inr w
          · refine absurd ⟨fun y hy he => ?_, by omega⟩ hc3
            rw [← hpl2] at hy
            obtain ⟨j, hj⟩ := List.getElem?_of_mem hy
            have hlt := (List.getElem?_eq_some_iff.mp hj).1
            rw [ft_pl_len] at hlt
            have hj2 : (j : Int) < h2 2 2 := by have := q1.1; omega
            rw [ft_pl_get hj2] at hj
            cases hj
            exact w ⟨j, hj2, he⟩
      refine ⟨_, c_FT_unsettle, fun h4 hw => ?_⟩
      obtain ⟨-, f4, u1, u2, u3, u4⟩ := hw
      have s4 : ft_sa h4 1 = (S.1, insK (kOf v l) x S.2.1, S.2.2.1, S.2.2.2.1, S.2.2.2.2) := by
        rw [ft_sa_1, f4 1 (by omega) (by omega), f3 1 (by omega), ft_pl_same (h := h3) (a := 2) (f4 _ (by omega) (by omega)) (f4 _ (by omega) (by omega)) (f4 _ (by omega) (by omega)), l3',
          ft_pl_same (h := h2) (a := 5) ((f4 _ (by omega) (by omega)).trans (f3 _ (by omega))) ((f4 _ (by omega) (by omega)).trans (f3 _ (by omega))) ((f4 _ (by omega) (by omega)).trans (f3 _ (by omega))),
          ft_pl_same (h := h2) (a := 8) ((f4 _ (by omega) (by omega)).trans (f3 _ (by omega))) ((f4 _ (by omega) (by omega)).trans (f3 _ (by omega))) ((f4 _ (by omega) (by omega)).trans (f3 _ (by omega))),
          ft_ct_same (h := h2) ((f4 11 (by omega) (by omega)).trans (f3 11 (by omega)))]
        rw [← s2]
      have e5 : h4 5 = h2 5 := (f4 5 (by omega) (by omega)).trans (f3 5 (by omega))
      have e8 : h4 8 = h2 8 := (f4 8 (by omega) (by omega)).trans (f3 8 (by omega))
      have e2 : h4 2 = h3 2 := f4 2 (by omega) (by omega)
      have s4' := s4
      rw [ft_sa_1] at s4'
      have w0 : h4 1 0 = S.1 := congrArg (fun s : ftS => s.1) s4'
      have w2 : ft_pl h4 5 = S.2.2.1 := congrArg (fun s : ftS => s.2.2.1) s4'
      have w4 : ft_ct h4 11 = S.2.2.2.2 := congrArg (fun s : ftS => s.2.2.2.2) s4'
      have hp4 : ft_ps h4 5 := ft_ps_of (by rw [e5]; exact q2.1) (by rw [w2]; exact hok.2.2.1.1)
      have hr4 : h4 5 2 ≤ 2 * h4 1 0 := by
        have := hok.2.2.1.2
        rw [← w2, ft_pl_len, ← w0] at this
        have := hp4.1
        omega
      refine ⟨_, c_St_routeChanged (a := 1) sh_1 hp4 (by rw [w0]; exact hok.1) hr4 (fun y hy => by rw [w4] at hy; exact ⟨(hok.2.2.2.2.2 y hy).1, Int.le_trans (hok.2.2.2.2.2 y hy).2 hB⟩) hK, fun z17 h5 _ hw => ?_⟩
      obtain ⟨f5, b5, l5, c5, r5⟩ := hw
      have l5' : ft_pl h5 5 = (hwChange (kOf v l) (2 * S.1) S.2.2.1 S.2.2.2.2).1 := by
        have := l5
        rw [show ft_pl h4 (1 + 4) = S.2.2.1 from w2, show ft_ct h4 (1 + 10) = S.2.2.2.2 from w4, w0] at this
        exact this
      have c5' : ft_ct h5 11 = (hwChange (kOf v l) (2 * S.1) S.2.2.1 S.2.2.2.2).2.1 := by
        have := c5
        rw [show ft_pl h4 (1 + 4) = S.2.2.1 from w2, show ft_ct h4 (1 + 10) = S.2.2.2.2 from w4, w0] at this
        exact this
      rw [show ft_pl h4 (1 + 4) = S.2.2.1 from w2, show ft_ct h4 (1 + 10) = S.2.2.2.2 from w4, w0] at r5
      have fa : ∀ k, 12 ≤ k → k ≠ 294 → h5 k = h2 k := fun k k1 k2 => by rw [f5 k (by omega), f4 k (by omega) k2, f3 k (by omega)]
      refine ⟨r5, ⟨fun k k0 k1 k2 k3 => by rw [f5 k (by omega), f4 k k0 k1, f3 k (by omega), f2 k k2 (by omega)], fun j hj => by rw [f5 0 (by omega), u1 j hj, f3 0 (by omega), f2 0 (by omega) (by omega)], fun j hj => by rw [f5 294 (by omega), u2 j hj, f3 294 (by omega), f2 294 (by omega) (by omega)]⟩, Or.inr ⟨_, rfl, ?_, by rw [f5 294 (by omega), u4], ?_⟩⟩
      · rw [f5 0 (by omega), u3, f3 0 (by omega), f2 0 (by omega) (by omega)]
      · refine ccI_st gI fa ⟨?_, ?_, ?_⟩ ?_
        · rw [f5 (1 + 1) (by omega), show h4 (1 + 1) = h3 2 from e2]
          exact ⟨g3.1, g3.2⟩
        · have := hok.1
          rw [← w0] at this
          exact ⟨b5.1, by have := b5.2; omega⟩
        · rw [f5 (1 + 7) (by omega), show h4 (1 + 7) = h2 8 from e8]
          exact q3.1
        · rw [ft_sa_1, l5', c5', f5 1 (by omega), w0, ft_pl_same (h := h4) (a := 2) (f5 _ (by omega)) (f5 _ (by omega)) (f5 _ (by omega)), ft_pl_same (h := h4) (a := 8) (f5 _ (by omega)) (f5 _ (by omega)) (f5 _ (by omega))]
          have w1 : ft_pl h4 2 = insK (kOf v l) x S.2.1 := congrArg (fun s : ftS => s.2.1) s4'
          have w3 : ft_pl h4 8 = S.2.2.2.1 := congrArg (fun s : ftS => s.2.2.2.1) s4'
          rw [w1, w3]
    rcases hr with ⟨hz, hr⟩ | ⟨p, hz, hp, hpk⟩
    · cases hz
      have hr2 : ∀ q ∈ S.2.1, q.1 ≠ kOf v l := by rw [hS1]; exact pl_ne hr
      have hnm : (kOf v l, x) ∉ S.2.1 := fun hm => hr2 _ hm rfl
      refine ⟨fun _ => ⟨fun q => absurd q (by decide), fun _ => ⟨fun e => go hnm (fun q => by omega), fun e => ?_⟩⟩, fun q => absurd (by decide) q⟩
      have e9 : aAdd v l x S = (-3, none) := by
        unfold aAdd
        rw [if_neg hc1, if_neg hnm, if_pos ⟨hr2, by omega⟩]
      rw [e9]
      exact ⟨rfl, same, Or.inl ⟨rfl, rfl⟩⟩
    · cases hz
      have hb := p1.1
      rw [show ft_ln (2 + 1) = 60 from ft_ln_3] at hb
      have hget : S.2.1[p]? = some (kOf v l, h1 4 p) := by
        rw [hS1, ft_pl_get hp, hpk]
      refine ⟨fun q => absurd q (by omega), fun _ => ⟨⟨by omega, by omega⟩, ?_⟩⟩
      rw [Int.toNat_natCast]
      have hnm : ¬ h1 4 p = x → (kOf v l, x) ∉ S.2.1 := fun e hm => e (by
        obtain ⟨i, hi⟩ := List.getElem?_of_mem hm
        have h7 := lOk_uniq hL hi hget rfl
        exact (congrArg Prod.snd h7).symm)
      refine ⟨fun e => ⟨fun _ => go (hnm e) (fun w => w.1 _ (List.mem_of_getElem? hget) rfl), fun q => absurd (by omega) q⟩, fun e => ?_⟩
      have hm : (kOf v l, x) ∈ S.2.1 := by
        have := List.mem_of_getElem? hget
        rwa [e] at this
      have e9 : aAdd v l x S = (-2, none) := by
        unfold aAdd
        rw [if_neg hc1, if_pos hm]
      rw [e9]
      exact ⟨rfl, same, Or.inl ⟨rfl, rfl⟩⟩
  · unfold aAdd; rw [if_pos (Or.inr (fun q => d q.2))]
