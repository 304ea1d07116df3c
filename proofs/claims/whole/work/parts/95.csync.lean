/-! CHANGES, CHANGE, MISSEDAFTER AND SYNC OF THE CLASS -/
/-- where the plan of a state begins, and the plan -/
noncomputable def sH (S : ftS) : List (Int × Int) := plH S.2.2.1 (tOf S) (2 * S.1)
noncomputable def sP (S : ftS) : List ftX := plL (sH S) (tOf S)
noncomputable def qChg (i w : Int) (S : ftS) : Int := if i < 0 ∨ ¬ (0 ≤ w ∧ w ≤ 3) then -1 else match (sP S)[i.toNat]? with
  | some x => if w = 0 then x.2.1 / 64 else if w = 1 then x.2.1 % 64 else if w = 2 then x.2.2.1 else x.2.2.2
  | none => -2
noncomputable def sHN (S : ftS) (n : Nat) : List (Int × Int) := apN (sH S) (sP S) n
noncomputable def qMA (lim : Int) (S : ftS) : Int := if ¬ (0 ≤ lim ∧ lim ≤ 200) then -1 else if lim = 0 then missS S.2.2.1 S.2.2.2.1 else missS (sHN S (min lim.toNat (sP S).length)) S.2.2.2.1
def ctCh (n : Int) (c : List Int) : List Int := match c with
  | [c0, c1, c2, c3, c4] => [c0, c1, c2 + n, c3, c4]
  | _ => c
noncomputable def sCt (S : ftS) : List Int := if (togC S.2.2.1 (tOf S) : Int) ≤ 2 * S.1 then S.2.2.2.2 else ctEmpty (S.2.2.1.length : Int) S.2.2.2.2
noncomputable def aSync (lim : Int) (S : ftS) : Int × Option ftS := if ¬ (1 ≤ lim ∧ lim ≤ 200) then (-1, none) else if (sP S).length = 0 then (-2, none) else ((min lim.toNat (sP S).length : Nat), some (S.1, S.2.1, sHN S (min lim.toNat (sP S).length), S.2.2.2.1, ctCh (min lim.toNat (sP S).length : Nat) (sCt S)))
theorem lOk_nil : lOk [] := ⟨fun q hq => by simp at hq, List.Pairwise.nil⟩
theorem sH_ok {B : Int} {S : ftS} (hok : sOk B S) : lOk (sH S) ∧ (togC (sH S) (tOf S) : Int) ≤ 80 := by
  have hT := tOf_ok hok
  have h1 := hok.1
  unfold sH plH
  by_cases c : (togC S.2.2.1 (tOf S) : Int) ≤ 2 * S.1
  · rw [if_pos c]; exact ⟨hok.2.2.1.1, by omega⟩
  · rw [if_neg c]
    refine ⟨lOk_nil, ?_⟩
    have h2 := tog_le (H := []) (T := tOf S)
    simp only [List.length_nil] at h2
    omega
theorem sP_len {B : Int} {S : ftS} (hok : sOk B S) : (sP S).length ≤ 140 := by
  have hT := tOf_ok hok
  have hH := sH_ok hok
  have h1 := tog_len (H := sH S) (T := tOf S)
  unfold sP
  rw [(plL_ok hH.1 hT.1).2.2]
  have h8 := tgC_len (H := sH S) (T := tOf S)
  have h9 := rmC_len (H := sH S) (T := tOf S)
  omega
theorem sP_key {B : Int} {S : ftS} (hok : sOk B S) {x : ftX} (hx : x ∈ sP S) : pK x.2.1 ∧ (0 ≤ x.2.2.1 ∧ x.2.2.1 ≤ 2) ∧ 0 ≤ x.2.2.2 ∧ x.2.2.2 ≤ 16 := by
  have hT := tOf_ok hok
  have hH := sH_ok hok
  rcases ((plL_ok hH.1 hT.1).2.1 x).mp hx with h | h
  · obtain ⟨t, t1, -, t3⟩ := tgC_mem.mp h
    have := hT.1.1 t t1
    rw [t3]
    exact ⟨this.1, by simp only; split <;> omega, this.2⟩
  · obtain ⟨t, t1, -, t3⟩ := rmC_mem.mp h
    have := hH.1.1 t t1
    rw [t3]
    exact ⟨this.1, by simp only; omega, this.2⟩
theorem d_FT_changes {h : ftH} {S : ftS} {P : List ftS} (hI : ccI h S P) {B : Int} (hok : sOk B S) (hc : csI h S) : ft_C k_FT_changes [.inr (.inr 0)] h (fun r h' => r = some (.inl ((sP S).length : Int)) ∧ sFr h h' ∧ csI h' S) := by
  refine ft_enter (n := 0) rfl (Nat.le_of_ble_eq_true rfl) rfl (b_FT_changes_0 ⟨_, c_FT_settle hI hok hc ⟨by omega, by omega⟩, fun h1 hw => ?_⟩)
  obtain ⟨-, fin, u3⟩ := hw
  have l4 := fin.2.2.2.2.2 u3
  exact ⟨by rw [l4.1.1]; rfl, fin⟩
theorem d_FT_change {h : ftH} {S : ftS} {P : List ftS} (hI : ccI h S P) {B : Int} (hok : sOk B S) (hc : csI h S) {i w : Int} : ft_C k_FT_change [.inr (.inr 0), .inl i, .inl w] h (fun r h' => r = some (.inr (.inl (qChg i w S))) ∧ sFr h h' ∧ csI h' S) := by
  have hpl := sP_len hok
  have bad : (i < 0 ∨ ¬ (0 ≤ w ∧ w ≤ 3)) → ((some (.inr (.inl (-1))) : Option ftV) = some (.inr (.inl (qChg i w S))) ∧ sFr h h ∧ csI h S) := fun q => by unfold qChg; rw [if_pos q]; exact ⟨rfl, sFr_rfl h, hc⟩
  refine ft_enter (n := 0) rfl (Nat.le_of_ble_eq_true rfl) rfl (b_FT_change_0 ⟨fun c => bad (by omega), fun c => ⟨fun d => bad (by omega), fun d => ⟨fun f => ⟨_, c_FT_settle hI hok hc ⟨by omega, by omega⟩, fun h1 hw => ?_⟩, fun f => bad (by omega)⟩⟩⟩)
  obtain ⟨-, fin, u3⟩ := hw
  have l4 := (fin.2.2.2.2.2 u3).1
  have hlen : h1 289 4 = ((sP S).length : Int) := l4.1
  unfold qChg
  rw [if_neg (by omega)]
  refine ⟨fun q => ?_, fun q => ?_⟩
  · have hx : (sP S)[i.toNat]? = some (h1 293 i.toNat, h1 290 i.toNat, h1 291 i.toNat, h1 292 i.toNat) := plI_at l4 (show i.toNat < (sP S).length by omega)
    have hk := (sP_key hok (List.mem_of_getElem? hx)).1.1.1
    rw [hx]
    refine ⟨fun c => ⟨⟨by omega, by omega⟩, ?_, fin⟩, fun c => ⟨⟨by omega, by omega⟩, hk, ?_, fin⟩, fun c => ⟨⟨by omega, by omega⟩, hk, ?_, fin⟩, fun c => ⟨⟨by omega, by omega⟩, ?_, fin⟩⟩
    · simp only
      rw [if_neg (by omega), if_neg (by omega), if_neg (by omega)]
    · simp only
      rw [if_pos c]
    · simp only
      rw [if_neg (by omega), if_pos c]
    · simp only
      rw [if_neg (by omega), if_neg (by omega), if_pos c]
  · rw [List.getElem?_eq_none (by omega)]
    exact ⟨rfl, fin⟩
theorem s_299 : ft_sh 299 = some (.inl 4) := by decide +kernel
theorem l_300 : ft_ln 300 = 80 := by decide +kernel
theorem l_6 : ft_ln 6 = 80 := by decide +kernel
/-- what missedAfter leaves alone -/
def oFr (h h' : ftH) : Prop := (∀ k, k ≠ 0 → (k < 115 ∨ (294 ≤ k ∧ ¬ (299 ≤ k ∧ k < 302))) → h' k = h k) ∧ ∀ j, j ≠ 5 → h' 0 j = h 0 j
theorem oFr_of {h h' : ftH} (f : sFr h h') : oFr h h' := ⟨fun k k0 k1 => f.1 k (by omega), f.2⟩
theorem v_mk {a : Nat} (ha : ft_sh a = some (.inl 4)) (da : a + 3 ≤ 289 ∨ 294 ≤ a) (hl : ft_ln (a + 1) = 80) {g : ftH} {S : ftS} {B : Int} (hok : sOk B S) (hp : plI g (sP S)) (pH : ft_ps g a) (eH : ft_pl g a = sH S) {lim : Int} (h0 : 0 ≤ lim) : ft_C k_SP_makeChanges [.inr (.inr 289), .inr (.inr a), .inl lim] g (fun r h' => r = some (.inl ((min lim.toNat (sP S).length : Nat) : Int)) ∧ (∀ k, k < a ∨ a + 3 ≤ k → h' k = g k) ∧ ft_ps h' a ∧ ft_pl h' a = sHN S (min lim.toNat (sP S).length)) := by
  obtain ⟨k, rfl⟩ : ∃ k : Nat, lim = (k : Int) := ⟨lim.toNat, by omega⟩
  have hT := tOf_ok hok
  have hH := sH_ok hok
  rw [Int.toNat_natCast]
  exact c_SP_makeChanges ha da hT.1 hT.2 hp pH eH (by rw [hl]; exact hH.2) rfl
theorem d_FT_missedAfter {h : ftH} {S : ftS} {P : List ftS} (hI : ccI h S P) {B : Int} (hok : sOk B S) (hc : csI h S) {lim : Int} : ft_C k_FT_missedAfter [.inr (.inr 0), .inl lim] h (fun r h' => r = some (.inl (qMA lim S)) ∧ oFr h h' ∧ csI h' S) := by
  obtain ⟨p1, p2, p3⟩ := cc_ps hI hok
  obtain ⟨e0, e1, e2, e3, e4⟩ := cc_eq hI
  have z2 : 0 ≤ h 5 2 ∧ h 5 2 ≤ 80 := hI.1.1.2.1
  have bad : ¬ (0 ≤ lim ∧ lim ≤ 200) → ((some (.inl (-1)) : Option ftV) = some (.inl (qMA lim S)) ∧ oFr h h ∧ csI h S) := fun q => by unfold qMA; rw [if_pos q]; exact ⟨rfl, oFr_of (sFr_rfl h), hc⟩
  refine ft_enter (n := 0) rfl (Nat.le_of_ble_eq_true rfl) rfl (b_FT_missedAfter_0 ⟨fun c => bad (by omega), fun c => ⟨fun d => ⟨_, c_PS_copyFrom (a := 299) (b := 5) s_299 sh_5 (Or.inr (by omega)) p2.1 (by rw [show 299 + 1 = 300 from rfl, l_300]; exact z2.2), fun h1 hw => ?_⟩, fun d => bad (by omega)⟩⟩)
  obtain ⟨-, u1, u2, u3⟩ := hw
  have hI1 : ccI h1 S P := ccI_fr hI (fun k k1 k2 => u1 k (by omega))
  have hc1 : csI h1 S := csI_fr (fun k k1 k2 => u1 k (by omega)) (by rw [u1 0 (by omega)]) hc
  have e9 : ft_pl h1 299 = S.2.2.1 := by rw [u3, e2]
  have q9 : ft_ps h1 299 := ft_ps_of ⟨by omega, by rw [show 299 + 1 = 300 from rfl, l_300]; omega⟩ (by rw [e9]; exact hok.2.2.1.1)
  unfold qMA
  rw [if_neg (fun q => q ⟨by omega, d⟩)]
  refine ⟨fun l0 => ?_, fun l0 => ⟨_, c_FT_settle hI1 hok hc1 (n := 4) ⟨by omega, by omega⟩, fun h3 hw => ?_⟩⟩
  · have t1 := (cc_ps hI1 hok).2.2
    refine ⟨_, c_TL_missedBy sh_8 s_299 t1 q9, fun z h2 _ w => ?_⟩
    obtain ⟨w1, rfl⟩ := w
    rw [w1, if_pos (by omega), e9, (cc_eq hI1).2.2.2.1]
    exact ⟨rfl, ⟨fun k k0 k1 => u1 k (by omega), fun j hj => by rw [u1 0 (by omega)]⟩, hc1⟩
  · obtain ⟨-, fin, v3⟩ := hw
    have l4 := fin.2.2.2.2.2 v3
    have hI3 := sFr_cc hI1 fin.1
    have p9 := ps_fr (h := h1) (h' := h3) (a := 299) (fun c c1 c2 => fin.1.1 c (by omega)) ⟨q9, e9⟩
    rw [if_neg (by omega)]
    -- from a heap that differs from h3 in the trial alone
    have go : ∀ g : ftH, (∀ k, k < 299 ∨ 302 ≤ k → g k = h3 k) → ft_ps g 299 → ft_pl g 299 = sH S → (∃ R8 : Option ftV → ftH → Prop, ft_C k_SP_makeChanges [.inr (.inr 289), .inr (.inr 299), .inl lim] g R8 ∧ ∀ (z10 : Int) (h4 : ftH), ft_in z10 → R8 (some (.inl z10)) h4 → (∃ R11 : Option ftV → ftH → Prop, ft_C k_TL_missedBy [.inr (.inr 8), .inr (.inr 299)] h4 R11 ∧ ∀ (z13 : Int) (h5 : ftH), ft_in z13 → R11 (some (.inl z13)) h5 → (some (.inl z13) : Option ftV) = some (.inl (missS (sHN S (min lim.toNat (sP S).length)) S.2.2.2.1)) ∧ oFr h h5 ∧ csI h5 S)) := by
      intro g fg pg eg
      have l4g := lv4_fr (h' := g) (fun c c1 c2 => fg c (by omega)) l4
      refine ⟨_, v_mk s_299 (Or.inr (by omega)) l_300 hok l4g.1 pg eg (lim := lim) (by omega), fun z h4 _ w => ?_⟩
      obtain ⟨-, w2, w3, w4⟩ := w
      have f4 : ∀ k, k < 299 ∨ 302 ≤ k → h4 k = h3 k := fun k hk => by rw [w2 k (by omega), fg k hk]
      have hI4 : ccI h4 S P := ccI_fr hI3 (fun k k1 k2 => f4 k (by omega))
      refine ⟨_, c_TL_missedBy sh_8 s_299 (cc_ps hI4 hok).2.2 w3, fun z h5 _ w => ?_⟩
      obtain ⟨w5, rfl⟩ := w
      rw [w5, w4, (cc_eq hI4).2.2.2.1]
      refine ⟨rfl, ⟨fun k k0 k1 => by rw [f4 k (by omega), fin.1.1 k (by omega), u1 k (by omega)], fun j hj => by rw [f4 0 (by omega), fin.1.2 j hj, u1 0 (by omega)]⟩, csI_fr (fun k k1 k2 => f4 k (by omega)) (by rw [f4 0 (by omega)]) fin.2⟩
    refine ⟨fun q => ?_, fun q h6 e6 => ?_⟩
    · refine go h3 (fun _ _ => rfl) p9.1 ?_
      rw [p9.2]
      unfold sH plH
      have := l4.2
      rw [q] at this
      by_cases t : (togC S.2.2.1 (tOf S) : Int) ≤ 2 * S.1
      · rw [if_pos t]
      · rw [if_neg t] at this; omega
    · have n6 : h6 299 2 = 0 := by rw [e6, ft_hs_same]
      have l6 : ft_pl h6 299 = [] := ft_pl_nil n6
      refine go h6 (fun k hk => by rw [e6, ft_hs_ne k (by omega)]) (ft_ps_of ⟨by omega, by omega⟩ (by rw [l6]; exact lOk_nil)) ?_
      rw [l6]
      unfold sH plH
      have := l4.2
      by_cases t : (togC S.2.2.1 (tOf S) : Int) ≤ 2 * S.1
      · rw [if_pos t] at this; exact absurd this q
      · rw [if_neg t]
