/-! SYNC OF THE CLASS -/
theorem ccI_hw {h h' : ftH} {S : ftS} {P : List ftS} (hI : ccI h S P) (hf : ∀ k, k < 5 ∨ 5 + 3 ≤ k → h' k = h k) (hz : 0 ≤ h' 5 2 ∧ h' 5 2 ≤ 80) : ccI h' (S.1, S.2.1, ft_pl h' 5, S.2.2.2.1, S.2.2.2.2) P := by
  obtain ⟨z1, z2, z3⟩ := hI.1.1
  have s := hI.1.2
  rw [ft_sa_1] at s
  refine ccI_st hI (fun k k1 k2 => hf k (by omega)) ⟨by rw [hf (1 + 1) (by omega)]; exact z1, hz, by rw [hf (1 + 7) (by omega)]; exact z3⟩ ?_
  rw [ft_sa_1, hf 1 (by omega), ft_pl_same (h := h) (a := 2) (hf _ (by omega)) (hf _ (by omega)) (hf _ (by omega)), ft_pl_same (h := h) (a := 8) (hf _ (by omega)) (hf _ (by omega)) (hf _ (by omega)), ft_ct_same (hf 11 (by omega)), ← s]
theorem ccI_ch {h h' : ftH} {S : ftS} {P : List ftS} (hI : ccI h S P) {n : Int} (e : h' = ft_hs h 11 2 (h 11 2 + n)) : ccI h' (S.1, S.2.1, S.2.2.1, S.2.2.2.1, ctCh n S.2.2.2.2) P := by
  obtain ⟨z1, z2, z3⟩ := hI.1.1
  have s := hI.1.2
  rw [ft_sa_1] at s
  have hf : ∀ k, k ≠ 11 → h' k = h k := fun k hk => by rw [e, ft_hs_ne k hk]
  have hct : ft_ct h' 11 = ctCh n (ft_ct h 11) := by
    unfold ft_ct ctCh
    simp only
    rw [e, ft_hs_same, ft_hs_j (by omega), ft_hs_j (by omega), ft_hs_j (by omega), ft_hs_j (by omega)]
  refine ccI_st hI (fun k k1 k2 => hf k (by omega)) ⟨by rw [hf (1 + 1) (by omega)]; exact z1, by rw [hf (1 + 4) (by omega)]; exact z2, by rw [hf (1 + 7) (by omega)]; exact z3⟩ ?_
  rw [ft_sa_1, hf 1 (by omega), ft_pl_same (h := h) (a := 2) (hf _ (by omega)) (hf _ (by omega)) (hf _ (by omega)), ft_pl_same (h := h) (a := 5) (hf _ (by omega)) (hf _ (by omega)) (hf _ (by omega)), ft_pl_same (h := h) (a := 8) (hf _ (by omega)) (hf _ (by omega)) (hf _ (by omega)), hct, ← s]
theorem ctE_rng {B n : Int} {c : List Int} (hB : 0 ≤ n) (hc : c.length = 5 ∧ ∀ x ∈ c, 0 ≤ x ∧ x ≤ B) : (ctEmpty n c).length = 5 ∧ ∀ x ∈ ctEmpty n c, 0 ≤ x ∧ x ≤ B + n := by
  match c, hc with
  | [c0, c1, c2, c3, c4], hc =>
    have b0 := hc.2 c0 (by simp)
    have b1 := hc.2 c1 (by simp)
    have b2 := hc.2 c2 (by simp)
    have b3 := hc.2 c3 (by simp)
    have b4 := hc.2 c4 (by simp)
    unfold ctEmpty
    simp only
    by_cases q : 0 < n
    · rw [if_pos q]
      refine ⟨rfl, fun x hx => ?_⟩
      simp only [List.mem_cons, List.not_mem_nil, or_false] at hx
      rcases hx with e | e | e | e | e <;> omega
    · rw [if_neg q]
      refine ⟨rfl, fun x hx => ?_⟩
      have := hc.2 x hx
      omega
theorem sCt_rng {B : Int} {S : ftS} (hok : sOk B S) : (sCt S).length = 5 ∧ ∀ x ∈ sCt S, 0 ≤ x ∧ x ≤ B + 80 := by
  have h1 := hok.2.2.2.2
  have h2 := hok.2.2.1.2
  have h3 := hok.1
  unfold sCt
  by_cases c : (togC S.2.2.1 (tOf S) : Int) ≤ 2 * S.1
  · rw [if_pos c]
    exact ⟨h1.1, fun x hx => by have := h1.2 x hx; omega⟩
  · rw [if_neg c]
    have := ctE_rng (n := (S.2.2.1.length : Int)) (by omega) h1
    exact ⟨this.1, fun x hx => by have := this.2 x hx; omega⟩
theorem lv_S {h : ftH} {S S' : ftS} (e1 : S'.1 = S.1) (e2 : S'.2.1 = S.2.1) (e3 : S'.2.2.2.1 = S.2.2.2.1) : (lv1 h S → lv1 h S') ∧ (lv2 h S → lv2 h S') ∧ (lv3 h S → lv3 h S') := by
  have a1 : eOf S' = eOf S := by unfold eOf; rw [e2]
  have a2 : hOf S' = hOf S := by unfold hOf; rw [a1, e3]
  have a3 : bB S' = bB S := by unfold bB; rw [a1, a2, e1]
  have a4 : tOf S' = tOf S := by unfold tOf; rw [a1, a3]
  unfold lv1 lv2 lv3
  rw [a1, a2, a3, a4, e2]
  exact ⟨id, id, id⟩
/-- what sync leaves alone -/
def yFr (h h' : ftH) : Prop := (∀ k, k ≠ 0 → k ≠ 294 → k ≠ 23 → (12 ≤ k ∧ k < 25 ∨ 113 ≤ k ∧ k < 115 ∨ 294 ≤ k) → h' k = h k) ∧ (∀ j, j ≠ 5 → h' 0 j = h 0 j) ∧ ∀ j, j ≠ 2 → h' 294 j = h 294 j
theorem d_FT_sync {h : ftH} {S : ftS} {P : List ftS} (hI : ccI h S P) {B : Int} (hB : B + 80 ≤ 1000000000) (hok : sOk B S) (hc : csI h S) {lim : Int} : ft_C k_FT_sync [.inr (.inr 0), .inl lim] h (fun r h' => r = some (.inl (aSync lim S).1) ∧ yFr h h' ∧ (((aSync lim S).2 = none ∧ sFr h h' ∧ csI h' S) ∨ ∃ S', (aSync lim S).2 = some S' ∧ h' 0 5 = 3 ∧ h' 294 2 = -1 ∧ csI h' S' ∧ ccI h' S' ((S :: P).take 8))) := by
  have bad : ¬ (1 ≤ lim ∧ lim ≤ 200) → ((some (.inl (-1)) : Option ftV) = some (.inl (aSync lim S).1) ∧ yFr h h ∧ (((aSync lim S).2 = none ∧ sFr h h ∧ csI h S) ∨ ∃ S', (aSync lim S).2 = some S' ∧ h 0 5 = 3 ∧ h 294 2 = -1 ∧ csI h S' ∧ ccI h S' ((S :: P).take 8))) := fun q => by
    have e : aSync lim S = (-1, none) := by unfold aSync; rw [if_pos q]
    rw [e]
    exact ⟨rfl, ⟨fun _ _ _ _ _ => rfl, fun _ _ => rfl, fun _ _ => rfl⟩, Or.inl ⟨rfl, sFr_rfl h, hc⟩⟩
  have hpl := sP_len hok
  refine ft_enter (n := 1) rfl (Nat.le_of_ble_eq_true rfl) rfl (b_FT_sync_0 ⟨fun c => bad (by omega), fun c => ⟨fun d => ⟨_, c_FT_settle hI hok hc (n := 4) ⟨by omega, by omega⟩, fun h1 hw => ?_⟩, fun d => bad (by omega)⟩⟩)
  obtain ⟨-, fin, v3⟩ := hw
  have l4 := fin.2.2.2.2.2 v3
  have hI1 := sFr_cc hI fin.1
  have n4 : h1 289 4 = ((sP S).length : Int) := l4.1.1
  refine ⟨fun q => ⟨_, d_Hi_save hI1, fun h2 hw => ?_⟩, fun q => ?_⟩
  · obtain ⟨-, f2, hI2⟩ := hw
    have e9 : aSync lim S = (((min lim.toNat (sP S).length : Nat) : Int), some (S.1, S.2.1, sHN S (min lim.toNat (sP S).length), S.2.2.2.1, ctCh (min lim.toNat (sP S).length : Nat) (sCt S))) := by
      unfold aSync
      rw [if_neg (fun q => q ⟨by omega, d⟩), if_neg (by omega)]
    rw [e9]
    have l42 := lv4_fr (h' := h2) (fun k k1 k2 => f2 k (by omega) (by omega)) l4
    -- from a heap whose hardware is where the plan begins
    have go : ∀ g : ftH, (∀ k, k ≠ 5 → k ≠ 11 → g k = h2 k) → ccI g (S.1, S.2.1, sH S, S.2.2.2.1, sCt S) ((S :: P).take 8) → (∃ R5 : Option ftV → ftH → Prop, ft_C k_SP_makeChanges [.inr (.inr 289), .inr (.inr 5), .inl lim] g R5 ∧ ∀ (z7 : Int) (h3 : ftH), ft_in z7 → R5 (some (.inl z7)) h3 → (∀ h4 : ftH, h4 = ft_hs h3 11 2 (ft_addL (h3 11 2) z7) → (∃ R8 : Option ftV → ftH → Prop, ft_C k_FT_unsettle [.inr (.inr 0), .inl 3] h4 R8 ∧ ∀ h5 : ftH, R8 none h5 → ((some (.inl z7) : Option ftV) = some (.inl ((min lim.toNat (sP S).length : Nat) : Int)) ∧ yFr h h5 ∧ (((some (S.1, S.2.1, sHN S (min lim.toNat (sP S).length), S.2.2.2.1, ctCh (min lim.toNat (sP S).length : Nat) (sCt S)) : Option ftS) = none ∧ sFr h h5 ∧ csI h5 S) ∨ ∃ S', (some (S.1, S.2.1, sHN S (min lim.toNat (sP S).length), S.2.2.2.1, ctCh (min lim.toNat (sP S).length : Nat) (sCt S)) : Option ftS) = some S' ∧ h5 0 5 = 3 ∧ h5 294 2 = -1 ∧ csI h5 S' ∧ ccI h5 S' ((S :: P).take 8)))))) := by
      intro g fg gI
      have l4g := lv4_fr (h' := g) (fun k k1 k2 => fg k (by omega) (by omega)) l42
      have eg := (cc_eq gI).2.2.1
      have zg : 0 ≤ g 5 2 ∧ g 5 2 ≤ 80 := gI.1.1.2.1
      have pg : ft_ps g 5 := ft_ps_of ⟨zg.1, by rw [show 5 + 1 = 6 from rfl, l_6]; exact zg.2⟩ (by rw [eg]; exact (sH_ok hok).1)
      refine ⟨_, v_mk sh_5 (Or.inl (by omega)) l_6 hok l4g.1 pg eg (lim := lim) (by omega), fun z h3 _ w h4 k4 => ?_⟩
      obtain ⟨w1, w2, w3, w4⟩ := w
      have hz := injI w1
      subst hz
      have hI3 := ccI_hw gI w2 ⟨w3.1.1, by have := w3.1.2; rw [show 5 + 1 = 6 from rfl, l_6] at this; exact this⟩
      rw [w4] at hI3
      have hct := (cc_eq hI3).2.2.2.2
      have b2 := (sCt_rng hok).2 (h3 11 2) (by
        have : ft_ct h3 11 = sCt S := hct
        rw [← this]; simp [ft_ct])
      have hm : min lim.toNat (sP S).length ≤ 140 := by omega
      rw [ft_addL_eq (by unfold ft_inL; omega)] at k4
      have hI4 := ccI_ch hI3 k4
      refine ⟨_, c_FT_unsettle, fun h5 w => ?_⟩
      obtain ⟨-, y3, y4, y5, y6, y7⟩ := w
      have hI5 := ccI_un hI4 y3
      have f5 : ∀ k, k ≠ 0 → k ≠ 294 → k ≠ 23 → (12 ≤ k ∧ k < 25 ∨ 113 ≤ k) → h5 k = h1 k := fun k k0 k1 k2 k3 => by rw [y3 k k0 k1, k4, ft_hs_ne k (by omega), w2 k (by omega), fg k (by omega) (by omega), f2 k k2 (by omega)]
      have g0 : h4 0 = h1 0 := by rw [k4, ft_hs_ne 0 (by omega), w2 0 (by omega), fg 0 (by omega) (by omega), f2 0 (by omega) (by omega)]
      have g294 : h4 294 = h1 294 := by rw [k4, ft_hs_ne 294 (by omega), w2 294 (by omega), fg 294 (by omega) (by omega), f2 294 (by omega) (by omega)]
      have s5 : h5 0 5 = 3 := by
        rw [y6, g0]
        have := fin.2.1
        omega
      refine ⟨rfl, ⟨fun k k0 k1 k2 k3 => by rw [f5 k k0 k1 k2 (by omega), fin.1.1 k (by omega)], fun j hj => by rw [y4 j hj, g0, fin.1.2 j hj], fun j hj => by rw [y5 j hj, g294, fin.1.1 294 (by omega)]⟩, Or.inr ⟨_, rfl, s5, y7, ?_, hI5⟩⟩
      have lS := lv_S (h := h5) (S := S) (S' := (S.1, S.2.1, sHN S (min lim.toNat (sP S).length), S.2.2.2.1, ctCh (min lim.toNat (sP S).length : Nat) (sCt S))) rfl rfl rfl
      unfold csI
      rw [s5]
      exact ⟨by omega, fun _ => lS.1 (lv1_fr (fun k k1 k2 => f5 k (by omega) (by omega) (by omega) (by omega)) (fin.2.2.1 (by omega))), fun _ => lS.2.1 (lv2_fr (fun k k1 k2 => f5 k (by omega) (by omega) (by omega) (by omega)) (fin.2.2.2.1 (by omega))), fun _ => lS.2.2 (lv3_fr (fun k k1 k2 => f5 k (by omega) (by omega) (by omega) (by omega)) (fin.2.2.2.2.1 (by omega))), fun q => absurd q (by omega)⟩
    refine ⟨fun q5 => go h2 (fun _ _ _ => rfl) ?_, fun q5 => ⟨_, v_FT_empty hI2 (B := B) (by omega) hok.2.2.2.2, fun h6 w => ?_⟩⟩
    · have h4 := l42.2
      rw [q5] at h4
      unfold sH plH sCt
      by_cases t : (togC S.2.2.1 (tOf S) : Int) ≤ 2 * S.1
      · rw [if_pos t, if_pos t]; exact hI2
      · rw [if_neg t] at h4; omega
    · obtain ⟨-, w1, w2⟩ := w
      refine go h6 w1 ?_
      have h4 := l42.2
      unfold sH plH sCt
      by_cases t : (togC S.2.2.1 (tOf S) : Int) ≤ 2 * S.1
      · rw [if_pos t] at h4; exact absurd h4 q5
      · rw [if_neg t, if_neg t]; exact w2
  · have e9 : aSync lim S = (-2, none) := by
      unfold aSync
      rw [if_neg (fun q => q ⟨by omega, d⟩), if_pos (by omega)]
    rw [e9]
    exact ⟨rfl, ⟨fun k k0 k1 k2 k3 => fin.1.1 k (by omega), fin.1.2, fun j _ => by rw [fin.1.1 294 (by omega)]⟩, Or.inl ⟨rfl, fin⟩⟩
