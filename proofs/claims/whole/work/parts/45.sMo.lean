/-! the reference: adding a route -/
theorem lOk_uniq {L : List (Int × Int)} (h : lOk L) {i j : Nat} {p q : Int × Int} (hi : L[i]? = some p) (hj : L[j]? = some q) (he : p.1 = q.1) : p = q := by
  have e1 := List.getElem?_eq_some_iff.mp hi
  have e2 := List.getElem?_eq_some_iff.mp hj
  rcases Nat.lt_trichotomy i j with c | c | c
  · have := List.pairwise_iff_getElem.mp h.2 i j e1.1 e2.1 c
    rw [e1.2, e2.2] at this
    omega
  · subst c
    rw [hi] at hj
    exact Option.some.inj hj
  · have := List.pairwise_iff_getElem.mp h.2 j i e2.1 e1.1 c
    rw [e1.2, e2.2] at this
    omega
theorem hwChange_ok {key room : Int} {L : List (Int × Int)} {c : List Int} {B : Int} (hk : pK key) (hL : lOk L) (hr : (L.length : Int) ≤ room) (h80 : room ≤ 80) (hc : c.length = 5 ∧ ∀ x ∈ c, 0 ≤ x ∧ x ≤ B) : lOk (hwChange key room L c).1 ∧ ((hwChange key room L c).1.length : Int) ≤ room ∧ ((hwChange key room L c).2.1.length = 5 ∧ ∀ x ∈ (hwChange key room L c).2.1, 0 ≤ x ∧ x ≤ B + 200) ∧ 0 ≤ (hwChange key room L c).2.2 ∧ (hwChange key room L c).2.2 ≤ 200 := by
  obtain ⟨h5, hx⟩ := hc
  match c, h5, hx with
  | [c0, c1, c2, c3, c4], _, hx =>
    have b0 := hx c0 (by simp)
    have b1 := hx c1 (by simp)
    have b2 := hx c2 (by simp)
    have b3 := hx c3 (by simp)
    have b4 := hx c4 (by simp)
    have hf := lOk_filter (p := fun q => !pIns key q.1) hL
    have hle := List.length_filter_le (fun q : Int × Int => !pIns key q.1) L
    have hne : ∀ q ∈ L.filter (fun q => !pIns key q.1), q.1 ≠ key := fun q hq he => by
      have h9 := (List.mem_filter.mp hq).2
      have h8 : pIns key q.1 = true := by
        rw [he, pIns_iff]
        have := pSz_pos (key % 64)
        omega
      rw [h8] at h9
      cases h9
    unfold hwChange
    simp only
    generalize L.filter (fun q => !pIns key q.1) = l1 at *
    split
    · split
      · dsimp only
        refine ⟨insK_ok hk (by omega) l1 hf, by rw [insK_len hne]; omega, ⟨rfl, fun x hx => ?_⟩, by omega, by omega⟩
        simp only [List.mem_cons, List.not_mem_nil, or_false] at hx
        rcases hx with rfl | rfl | rfl | rfl | rfl <;> omega
      · dsimp only
        refine ⟨⟨fun q hq => by simp at hq, List.Pairwise.nil⟩, by simp; omega, ?_, by omega, by omega⟩
        unfold ctEmpty
        simp only
        split
        · refine ⟨rfl, fun x hx => ?_⟩
          simp only [List.mem_cons, List.not_mem_nil, or_false] at hx
          rcases hx with rfl | rfl | rfl | rfl | rfl <;> omega
        · refine ⟨rfl, fun x hx => ?_⟩
          simp only [List.mem_cons, List.not_mem_nil, or_false] at hx
          rcases hx with rfl | rfl | rfl | rfl | rfl <;> omega
    · dsimp only
      refine ⟨hf, by omega, ⟨rfl, fun x hx => ?_⟩, by omega, by omega⟩
      simp only [List.mem_cons, List.not_mem_nil, or_false] at hx
      rcases hx with rfl | rfl | rfl | rfl | rfl <;> omega
theorem d_Mo_addRoute {h : ftH} {S : ftS} {P : List ftS} (hI : mcI h S P) {B : Int} (hB : B ≤ 1000000000) (hok : sOk B S) {v l x : Int} (hv : ft_in v) : ft_C k_Mo_addRoute [.inr (.inr 309), .inl v, .inl l, .inl x] h (fun r h' => r = some (.inl (aAdd v l x S).1) ∧ (∀ c, c ≠ 309 → c ≠ 310 → c ≠ 311 → h' c = h c) ∧ ((aAdd v l x S).2 = none ∧ h' = h ∨ ∃ S', (aAdd v l x S).2 = some S' ∧ (∀ j, j ≠ 4 → j ≠ 20 → h' 309 j = h 309 j) ∧ h' 309 20 = 0 ∧ mcI h' S' ((S :: P).take 8))) := by
  have hI2 := hI
  obtain ⟨⟨z, s⟩, h4, hP, hd⟩ := hI
  obtain ⟨z1, z2, z3, z4, z5⟩ := ft_mz_0.mp z
  have s' := s
  rw [ft_ma_0] at s'
  have hS1 : S.2.1 = ft_ml h 310 10 (h 310 0).toNat := by rw [← s']
  have hlen : (S.2.1.length : Int) = h 310 0 := by rw [hS1, ft_ml_len]; omega
  obtain ⟨n, hn⟩ : ∃ n : Nat, h 310 0 = n := ⟨(h 310 0).toNat, by omega⟩
  have hn2 : (h 310 0).toNat = n := by omega
  rw [hn2] at hS1
  have hL := hok.2.1.1
  refine ft_enter (n := 2) rfl (Nat.le_of_ble_eq_true rfl) rfl (b_Mo_addRoute_0 ⟨fun c => ?_, fun c => ⟨fun d => ?_, fun d => ?_⟩⟩)
  · have e : aAdd v l x S = (-1, none) := by unfold aAdd; rw [if_pos (Or.inl c)]
    rw [e]
    exact ⟨rfl, fun _ _ _ _ => rfl, Or.inl ⟨rfl, rfl⟩⟩
  · rw [hn]
    refine ⟨_, c_Mo_placeOf (o := 10) (n := n) (by omega) (fun k hk => z4 k (by omega)) hv c.1, fun r7 h1 _ hw => ?_⟩
    obtain ⟨rfl, r, hz, hr⟩ := hw
    cases hz
    rw [← hS1] at hr
    have hc1 : ¬ (¬ ((0 ≤ l ∧ l ≤ 32) ∧ pUn v % pSz l = 0) ∨ ¬ (0 ≤ x ∧ x ≤ 15)) := fun q => q.elim (fun q => q c) (fun q => q d)
    -- from 75 on
    have go : (kOf v l, x) ∉ S.2.1 → ¬ ((∀ q ∈ S.2.1, q.1 ≠ kOf v l) ∧ 60 ≤ S.2.1.length) → ft_V k_Mo_addRoute 75 [some (.inr (.inr 309)), some (.inl v), some (.inl l), some (.inl x), some (.inl r7), none] [] h1 (fun r h' => r = some (.inl (aAdd v l x S).1) ∧ (∀ c, c ≠ 309 → c ≠ 310 → c ≠ 311 → h' c = h1 c) ∧ ((aAdd v l x S).2 = none ∧ h' = h1 ∨ ∃ S', (aAdd v l x S).2 = some S' ∧ (∀ j, j ≠ 4 → j ≠ 20 → h' 309 j = h1 309 j) ∧ h' 309 20 = 0 ∧ mcI h' S' ((S :: P).take 8))) := by
      intro hc2 hc3
      have e : aAdd v l x S = ((hwChange (kOf v l) (2 * S.1) S.2.2.1 S.2.2.2.2).2.2, some (S.1, insK (kOf v l) x S.2.1, (hwChange (kOf v l) (2 * S.1) S.2.2.1 S.2.2.2.2).1, S.2.2.2.1, (hwChange (kOf v l) (2 * S.1) S.2.2.1 S.2.2.2.2).2.1)) := by
        unfold aAdd
        rw [if_neg hc1, if_neg hc2, if_neg hc3]
      rw [e]
      -- from 127 on
      have fin : ∀ g : ftH, (∀ c, c ≠ 309 → c ≠ 310 → c ≠ 311 → g c = h1 c) → (∀ j, j ≠ 4 → j ≠ 20 → g 309 j = h1 309 j) → g 309 20 = 0 → mcI g (S.1, insK (kOf v l) x S.2.1, S.2.2.1, S.2.2.2.1, S.2.2.2.2) ((S :: P).take 8) → (insK (kOf v l) x S.2.1).length ≤ 60 → ft_V k_Mo_addRoute 127 [some (.inr (.inr 309)), some (.inl v), some (.inl l), none, none, none] [] g (fun r h' => r = some (.inl (hwChange (kOf v l) (2 * S.1) S.2.2.1 S.2.2.2.2).2.2) ∧ (∀ c, c ≠ 309 → c ≠ 310 → c ≠ 311 → h' c = h1 c) ∧ ((some (S.1, insK (kOf v l) x S.2.1, (hwChange (kOf v l) (2 * S.1) S.2.2.1 S.2.2.2.2).1, S.2.2.2.1, (hwChange (kOf v l) (2 * S.1) S.2.2.1 S.2.2.2.2).2.1) : Option ftS) = none ∧ h' = h1 ∨ ∃ S', some (S.1, insK (kOf v l) x S.2.1, (hwChange (kOf v l) (2 * S.1) S.2.2.1 S.2.2.2.2).1, S.2.2.2.1, (hwChange (kOf v l) (2 * S.1) S.2.2.1 S.2.2.2.2).2.1) = some S' ∧ (∀ j, j ≠ 4 → j ≠ 20 → h' 309 j = h1 309 j) ∧ h' 309 20 = 0 ∧ mcI h' S' ((S :: P).take 8))) := by
        intro g g1 g2 g3 gI g60
        have hok2 : sOk B (S.1, insK (kOf v l) x S.2.1, S.2.2.1, S.2.2.2.1, S.2.2.2.2) := ⟨hok.1, ⟨insK_ok (kOf_pK c.1 c.2) (by omega) _ hL, fun q hq => by
          rcases insK_mem _ q hq with rfl | hq
          · exact d.2
          · exact hok.2.1.2.1 q hq, g60⟩, hok.2.2.1, hok.2.2.2.1, hok.2.2.2.2⟩
        refine b_Mo_addRoute_127 (fun n1 en => ⟨_, v_Mo_changed hB gI.1.1 gI.1.2 hok2 c.1 c.2, fun h2 hw => ?_⟩)
        obtain ⟨-, f1, f2, f3, f4⟩ := hw
        simp only at f3 f4
        have hw9 := hwChange_ok (kOf_pK c.1 c.2) hok.2.2.1.1 hok.2.2.1.2 (by have := hok.1; omega) hok.2.2.2.2
        have hg6 : 0 ≤ g 310 6 ∧ g 310 6 ≤ B := by
          have hm := gI.1.2
          rw [ft_ma_0] at hm
          have h5 : ft_mc g = S.2.2.2.2 := congrArg (fun s : ftS => s.2.2.2.2) hm
          exact hok.2.2.2.2.2 _ (by rw [← h5]; simp [ft_mc])
        refine ⟨?_, fun c c1 c2 c3 => by rw [f1 c c2, g1 c c1 c2 c3], Or.inr ⟨_, rfl, fun j j1 j2 => by rw [f1 309 (by omega), g2 j j1 j2], by rw [f1 309 (by omega), g3], mcI_310 gI f1 f2 f3⟩⟩
        rw [en, f4, ft_sub_eq ⟨by omega, by omega⟩]
        refine congrArg some (congrArg Sum.inl ?_)
        omega
      refine b_Mo_addRoute_75 ⟨_, d_Mo_keepsPast hI2, fun g hw => ?_⟩
      obtain ⟨-, g1, g2, g3, gI⟩ := hw
      have g310 : g 310 = h1 310 := g1 310 (by omega) (by omega)
      rcases hr with ⟨rfl, hr⟩ | ⟨p, q, rfl, hp, hq, hqk⟩
      · refine ⟨fun _ => ?_, fun q => absurd (by decide) q⟩
        have hn60 : n < 60 := by
          by_cases q : n < 60
          · exact q
          · exact absurd ⟨hr, by omega⟩ hc3
        rw [g310, hn]
        have hmlg : ft_ml g 310 10 n = S.2.1 := by rw [hS1]; exact ft_ml_mv (fun j _ => by rw [g310])
        refine ⟨_, c_Mo_putsIn (o := 10) (n := n) (by omega) (fun k hk => by rw [g310]; exact z4 k (by omega)) c.1 (by rw [hmlg]; exact hL.2) (by rw [hmlg]; exact hr), fun h2 hw h3 e3 => ?_⟩
        obtain ⟨-, f1, f2, f3, f4⟩ := hw
        rw [hmlg] at f3
        have k0 : h2 310 0 = n := by rw [f2 0 (by omega), g310, hn]
        rw [k0, ft_add_eq ⟨by omega, by omega⟩] at e3
        have fj : ∀ j, j ≠ 0 → h3 310 j = h2 310 j := fun j hj => by rw [e3, ft_hs_j hj]
        have k3 : h3 310 0 = ((n + 1 : Nat) : Int) := by rw [e3, ft_hs_same]; rfl
        have fo : ∀ j, 1 ≤ j → j < 10 ∨ 10 + 3 * n + 3 ≤ j → h3 310 j = h1 310 j := fun j j1 j2 => by rw [fj j (by omega), f2 j (by omega), g310]
        have hst := s'
        refine fin h3 (fun c c1 c2 c3 => by rw [e3, ft_hs_ne c c2, f1 c c2, g1 c c1 c3]) (fun j j1 j2 => by rw [e3, ft_hs_ne 309 (by omega), f1 309 (by omega), g2 j j1 j2]) (by rw [e3, ft_hs_ne 309 (by omega), f1 309 (by omega), g3]) (mcI_310 gI (fun c hc => by rw [e3, ft_hs_ne c hc, f1 c hc]) (ft_mz_0.mpr ⟨by rw [k3]; omega, by rw [fo 2 (by omega) (by omega)]; exact z2, by rw [fo 1 (by omega) (by omega)]; exact z3, fun k hk => by rw [fj _ (by omega)]; exact f4 k (by omega), fun k hk => ?_⟩) ?_) (by rw [insK_len (k := kOf v l) (fun q hq => hr q hq)]; omega)
        · rw [fo 2 (by omega) (by omega)] at hk
          rw [fo _ (by omega) (by omega)]
          exact z5 k hk
        · rw [ft_ma_0, k3, Int.toNat_natCast, fo 1 (by omega) (by omega), fo 2 (by omega) (by omega), fo 3 (by omega) (by omega)]
          have q1 : ft_ml h3 310 10 (n + 1) = insK (kOf v l) x S.2.1 := by
            have f3' : ft_ml h2 310 10 (n + 1) = insK (kOf v l) x S.2.1 := f3
            rw [← f3']
            exact ft_ml_mv (fun j _ => fj _ (by omega))
          have q2 : ft_ml h3 310 270 (h1 310 2).toNat = ft_ml h1 310 270 (h1 310 2).toNat := ft_ml_mv (fun j _ => fo _ (by omega) (by omega))
          have q3 : ft_gl h3 310 190 (h1 310 1).toNat = ft_gl h1 310 190 (h1 310 1).toNat := ft_gl_mv (fun j _ => fo _ (by omega) (by omega))
          have q4 : ft_mc h3 = ft_mc h1 := by
            unfold ft_mc
            rw [fo 4 (by omega) (by omega), fo 5 (by omega) (by omega), fo 6 (by omega) (by omega), fo 7 (by omega) (by omega), fo 8 (by omega) (by omega)]
          rw [q1, q2, q3, q4, ← hst]
      · refine ⟨fun q => absurd q (by omega), fun _ => ?_⟩
        have a9 : ft_add (ft_add 10 (ft_mul 3 (p : Int))) 2 = ((10 + 3 * p + 2 : Nat) : Int) := by
          rw [ft_mul_eq ⟨by omega, by omega⟩, ft_add_eq (x := 10) ⟨by omega, by omega⟩, ft_add_eq ⟨by omega, by omega⟩]
          omega
        rw [a9, Int.toNat_natCast]
        clear a9
        refine ⟨⟨by omega, by omega⟩, fun h3 e3 => ?_⟩
        have fo : ∀ j, j ≠ 10 + 3 * p + 2 → h3 310 j = h1 310 j := fun j hj => by rw [e3, ft_hs_j hj, g310]
        have hst := s'
        have hset : insK (kOf v l) x S.2.1 = S.2.1.set p (kOf v l, x) := insK_set _ x _ p q hq hqk (fun j r hj hr => by
          have e1 := List.getElem?_eq_some_iff.mp hr
          have e2 := List.getElem?_eq_some_iff.mp hq
          have := List.pairwise_iff_getElem.mp hL.2 j p e1.1 e2.1 hj
          rw [e1.2, e2.2, hqk] at this
          exact this)
        refine fin h3 (fun c c1 c2 c3 => by rw [e3, ft_hs_ne c c2, g1 c c1 c3]) (fun j j1 j2 => by rw [e3, ft_hs_ne 309 (by omega), g2 j j1 j2]) (by rw [e3, ft_hs_ne 309 (by omega), g3]) (mcI_310 gI (fun c hc => by rw [e3, ft_hs_ne c hc]) (ft_mz_0.mpr ⟨by rw [fo 0 (by omega)]; exact z1, by rw [fo 2 (by omega)]; exact z2, by rw [fo 1 (by omega)]; exact z3, fun k hk => ?_, fun k hk => ?_⟩) ?_) (by rw [hset, List.length_set]; omega)
        · rw [fo 0 (by omega)] at hk
          rw [fo _ (by omega)]
          exact z4 k hk
        · rw [fo 2 (by omega)] at hk
          rw [fo _ (by omega)]
          exact z5 k hk
        · rw [ft_ma_0, fo 0 (by omega), fo 1 (by omega), fo 2 (by omega), fo 3 (by omega), hn2]
          have q1 : ft_ml h3 310 10 n = insK (kOf v l) x S.2.1 := by
            rw [hset, hS1]
            apply List.ext_getElem?
            intro i
            by_cases ei : i = p
            · rw [ei, List.getElem?_set_self (by rw [ft_ml_len]; exact hp), ft_ml_get hp, fo (10 + 3 * p) (by omega), fo (10 + 3 * p + 1) (by omega), e3, ft_hs_same]
              rw [hS1, ft_ml_get hp] at hq
              cases hq
              simp only at hqk
              rw [hqk]
              rfl
            · rw [List.getElem?_set_ne (fun z => ei z.symm)]
              by_cases ci : i < n
              · rw [ft_ml_get ci, ft_ml_get ci, fo (10 + 3 * i) (by omega), fo (10 + 3 * i + 1) (by omega), fo (10 + 3 * i + 2) (by omega)]
              · rw [ft_ml_none (by omega), ft_ml_none (by omega)]
          have q2 : ft_ml h3 310 270 (h1 310 2).toNat = ft_ml h1 310 270 (h1 310 2).toNat := ft_ml_mv (fun j _ => fo _ (by omega))
          have q3 : ft_gl h3 310 190 (h1 310 1).toNat = ft_gl h1 310 190 (h1 310 1).toNat := ft_gl_mv (fun j _ => fo _ (by omega))
          have q4 : ft_mc h3 = ft_mc h1 := by
            unfold ft_mc
            rw [fo 4 (by omega), fo 5 (by omega), fo 6 (by omega), fo 7 (by omega), fo 8 (by omega)]
          rw [q1, q2, q3, q4, ← hst]
    rcases hr with ⟨rfl, hr⟩ | ⟨p, q, rfl, hp, hq, hqk⟩
    · refine ⟨fun _ => b_Mo_addRoute_56 ⟨fun q => absurd q (by decide), fun _ => ⟨fun e => go (fun hm => hr _ hm rfl) (fun q => e (by omega)), fun e => ?_⟩⟩, fun q => absurd (by decide) q⟩
      have e9 : aAdd v l x S = (-3, none) := by
        unfold aAdd
        rw [if_neg hc1, if_neg (fun hm => hr _ hm rfl), if_pos ⟨hr, by omega⟩]
      rw [e9]
      exact ⟨rfl, fun _ _ _ _ => rfl, Or.inl ⟨rfl, rfl⟩⟩
    · refine ⟨fun q => absurd q (by omega), fun _ => ⟨⟨by omega, by omega⟩, ?_⟩⟩
      rw [Int.toNat_natCast]
      have hq2 := hq
      rw [hS1, ft_ml_get hp] at hq2
      cases hq2
      simp only at hqk
      have hnm : ¬ h1 310 (12 + 3 * p) = x → (kOf v l, x) ∉ S.2.1 := fun e hm => e (by
        obtain ⟨i, hi⟩ := List.getElem?_of_mem hm
        have h7 := lOk_uniq hL hi hq hqk.symm
        have h8 := congrArg Prod.snd h7
        simp only at h8
        rw [h8, show 12 + 3 * p = 10 + 3 * p + 2 by omega])
      refine ⟨fun e => b_Mo_addRoute_56 ⟨fun _ => go (hnm e) (fun w => w.1 _ (List.mem_of_getElem? hq) hqk), fun q => absurd (by omega) q⟩, fun e => ?_⟩
      · have hm : (kOf v l, x) ∈ S.2.1 := by
          have := List.mem_of_getElem? hq
          rw [hqk, show 10 + 3 * p + 2 = 12 + 3 * p by omega, e] at this
          exact this
        have e9 : aAdd v l x S = (-2, none) := by
          unfold aAdd
          rw [if_neg hc1, if_pos hm]
        rw [e9]
        exact ⟨rfl, fun _ _ _ _ => rfl, Or.inl ⟨rfl, rfl⟩⟩
  · have e : aAdd v l x S = (-1, none) := by unfold aAdd; rw [if_pos (Or.inr d)]
    rw [e]
    exact ⟨rfl, fun _ _ _ _ => rfl, Or.inl ⟨rfl, rfl⟩⟩
