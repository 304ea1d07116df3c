/-! REPORTS: the class -/
/-- the report that stands is right -/
def rcI (h : ftH) (S : ftS) : Prop := h 294 2 = -1 ∨ ((0 ≤ h 294 2 ∧ h 294 2 ≤ 4) ∧ rpI h (rpT (h 294 2) S))
def tFr (h h' : ftH) : Prop := (∀ k, (k ≠ 0 ∧ k < 115) ∨ 296 ≤ k → h' k = h k) ∧ ∀ j, j ≠ 5 → h' 0 j = h 0 j
theorem tFr_rfl (h : ftH) : tFr h h := ⟨fun _ _ => rfl, fun _ _ => rfl⟩
theorem tFr_tr {h h1 h2 : ftH} (a : tFr h h1) (b : tFr h1 h2) : tFr h h2 := ⟨fun k hk => by rw [b.1 k hk, a.1 k hk], fun j hj => by rw [b.2 j hj, a.2 j hj]⟩
theorem tFr_s {h h' : ftH} (f : sFr h h') : tFr h h' := ⟨fun k hk => f.1 k (by omega), f.2⟩
theorem tFr_c {h h' : ftH} (f : cTf h h') : tFr h h' := ⟨fun k hk => f.1 k (by omega) (by omega), fun j _ => by rw [f.1 0 (by omega) (by omega)]⟩
theorem csI_c {h h' : ftH} {S : ftS} (f : cTf h h') (hc : csI h S) : csI h' S := csI_fr (fun k k1 k2 => f.1 k (by omega) (by omega)) (by rw [f.1 0 (by omega) (by omega)]) hc
theorem c_FT_writeReport {h : ftH} {S : ftS} {P : List ftS} (hI : ccI h S P) {B : Int} (hok : sOk B S) (hc : csI h S) (hr : rcI h S) {k : Int} (hk : 0 ≤ k ∧ k ≤ 4) : ft_C k_FT_writeReport [.inr (.inr 0), .inl k] h (fun r h' => r = none ∧ tFr h h' ∧ csI h' S ∧ rpI h' (rpT k S) ∧ h' 294 2 = k) := by
  have hEo := eOf_ok hok
  have hTo := tOf_ok hok
  have hcap := hok.1
  have hh := hok.2.2.1.2
  refine ft_enter (n := 0) rfl (Nat.le_of_ble_eq_true rfl) rfl (b_FT_writeReport_0 ⟨fun c h1 e1 h2 e2 => ?_, fun c => ?_⟩)
  · have f2 : ∀ c, c ≠ 294 → h2 c = h c := fun c hc => by rw [e2, ft_hs_ne c hc, e1, ft_hs_ne c hc]
    have t2 : tFr h h2 := ⟨fun k hk => f2 k (by omega), fun j _ => by rw [f2 0 (by omega)]⟩
    have c2 : csI h2 S := csI_fr (fun k k1 k2 => f2 k (by omega)) (by rw [f2 0 (by omega)]) hc
    have i2 : ccI h2 S P := ccI_fr hI (fun k k1 k2 => f2 k (by omega))
    have r2 : rpI h2 [] := ⟨by rw [e2, ft_hs_j (by omega), e1, ft_hs_same]; rfl, fun i hi => absurd hi (Nat.not_lt_zero i)⟩
    have k2 : h2 294 2 = k := by rw [e2, ft_hs_same]
    obtain ⟨p1, p2, p3⟩ := cc_ps i2 hok
    obtain ⟨e0, e1', e2', e3', e4'⟩ := cc_eq i2
    refine ⟨fun c => ⟨_, c_Re_addTraffic p3 r2, fun h3 w => ?_⟩, fun c => ⟨_, c_Re_addPrefixes sh_2 (by omega) (setI_of p1 e1') hok.2.1.1 (by have := hok.2.1.2.2; omega) r2, fun h3 w => ?_⟩, fun c => ⟨_, c_FT_settle i2 hok c2 ⟨by omega, by omega⟩, fun h3 w => ?_⟩, fun c => ⟨_, c_FT_settle i2 hok c2 ⟨by omega, by omega⟩, fun h3 w => ?_⟩, fun c => ⟨_, c_Re_addPrefixes sh_5 (by omega) (setI_of p2 e2') hok.2.2.1.1 (by omega) r2, fun h3 w => ?_⟩⟩
    · have en : rpT k S = prG S.2.2.2.1 := by unfold rpT; rw [if_neg (by omega), if_neg (by omega), if_neg (by omega), if_neg (by omega)]
      rw [en, ← e3']
      exact ⟨rfl, tFr_tr t2 (tFr_c w.2.2), csI_c w.2.2 c2, w.2.1, by rw [w.2.2.2 2 (by omega)]; exact k2⟩
    · have en : rpT k S = prT S.2.1 := by unfold rpT; rw [if_pos c]
      rw [en]
      exact ⟨rfl, tFr_tr t2 (tFr_c w.2.2), csI_c w.2.2 c2, w.2.1, by rw [w.2.2.2 2 (by omega)]; exact k2⟩
    · obtain ⟨-, ⟨u1, u2⟩, u3⟩ := w
      have l2 := u2.2.2.1 u3
      have en : rpT k S = prT (eOf S) := by unfold rpT; rw [if_neg (by omega), if_pos c]
      rw [en]
      refine ⟨_, c_Re_addPrefixes s_133 (by omega) (setI_of l2.1.1 l2.1.2) hEo.1 (by omega) (by unfold rpI sqI at r2 ⊢; rw [u1.1 294 (by omega), u1.1 295 (by omega)]; exact r2), fun h4 w => ?_⟩
      exact ⟨rfl, tFr_tr t2 (tFr_tr (tFr_s u1) (tFr_c w.2.2)), csI_c w.2.2 u2, w.2.1, by rw [w.2.2.2 2 (by omega), u1.1 294 (by omega)]; exact k2⟩
    · obtain ⟨-, ⟨u1, u2⟩, u3⟩ := w
      have l3 := u2.2.2.2.1 u3
      have en : rpT k S = prT (tOf S) := by unfold rpT; rw [if_neg (by omega), if_neg (by omega), if_pos c]
      rw [en]
      refine ⟨_, c_Re_addPrefixes s_145 (by omega) (setI_of l3.2.2.2.2.1 l3.2.2.2.2.2) hTo.1 (by omega) (by unfold rpI sqI at r2 ⊢; rw [u1.1 294 (by omega), u1.1 295 (by omega)]; exact r2), fun h4 w => ?_⟩
      exact ⟨rfl, tFr_tr t2 (tFr_tr (tFr_s u1) (tFr_c w.2.2)), csI_c w.2.2 u2, w.2.1, by rw [w.2.2.2 2 (by omega), u1.1 294 (by omega)]; exact k2⟩
    · have en : rpT k S = prT S.2.2.1 := by unfold rpT; rw [if_neg (by omega), if_neg (by omega), if_neg (by omega), if_pos c]
      rw [en]
      exact ⟨rfl, tFr_tr t2 (tFr_c w.2.2), csI_c w.2.2 c2, w.2.1, by rw [w.2.2.2 2 (by omega)]; exact k2⟩
  · rcases hr with q | q
    · omega
    · rw [c] at q
      exact ⟨rfl, tFr_rfl h, hc, q.2, c⟩
theorem rcI_of {h : ftH} {S : ftS} {k : Int} (hk : 0 ≤ k ∧ k ≤ 4) (e : h 294 2 = k) (hr : rpI h (rpT k S)) : rcI h S := Or.inr (by rw [e]; exact ⟨hk, hr⟩)
theorem d_FT_reportLength {h : ftH} {S : ftS} {P : List ftS} (hI : ccI h S P) {B : Int} (hok : sOk B S) (hc : csI h S) (hr : rcI h S) {k : Int} : ft_C k_FT_reportLength [.inr (.inr 0), .inl k] h (fun r h' => r = some (.inl (qRL k S)) ∧ tFr h h' ∧ csI h' S ∧ rcI h' S) := by
  have bad : ¬ (0 ≤ k ∧ k ≤ 4) → ((some (.inl (-1)) : Option ftV) = some (.inl (qRL k S)) ∧ tFr h h ∧ csI h S ∧ rcI h S) := fun c => by
    unfold qRL
    rw [if_neg c]
    exact ⟨rfl, tFr_rfl h, hc, hr⟩
  refine ft_enter (n := 0) rfl (Nat.le_of_ble_eq_true rfl) rfl (b_FT_reportLength_0 ⟨fun c => bad (by omega), fun c => ⟨fun d => ⟨_, c_FT_writeReport hI hok hc hr ⟨by omega, d⟩, fun h1 w => ?_⟩, fun d => bad (by omega)⟩⟩)
  unfold qRL
  rw [if_pos ⟨by omega, d⟩, w.2.2.2.1.1]
  exact ⟨rfl, w.2.1, w.2.2.1, rcI_of ⟨by omega, d⟩ w.2.2.2.2 w.2.2.2.1⟩
theorem d_FT_reportByte {h : ftH} {S : ftS} {P : List ftS} (hI : ccI h S P) {B : Int} (hok : sOk B S) (hc : csI h S) (hr : rcI h S) {k i : Int} : ft_C k_FT_reportByte [.inr (.inr 0), .inl k, .inl i] h (fun r h' => r = some (.inl (qRB k i S)) ∧ tFr h h' ∧ csI h' S ∧ rcI h' S) := by
  have hl := rpT_len hok k
  have bad : ¬ ((0 ≤ k ∧ k ≤ 4) ∧ 0 ≤ i) → ((some (.inl (-1)) : Option ftV) = some (.inl (qRB k i S)) ∧ tFr h h ∧ csI h S ∧ rcI h S) := fun c => by
    unfold qRB
    rw [if_neg c]
    exact ⟨rfl, tFr_rfl h, hc, hr⟩
  refine ft_enter (n := 0) rfl (Nat.le_of_ble_eq_true rfl) rfl (b_FT_reportByte_0 ⟨fun c => bad (by omega), fun c => ⟨fun d => bad (by omega), fun d => ⟨fun i0 => ⟨_, c_FT_writeReport hI hok hc hr (k := k) ⟨by omega, by omega⟩, fun h1 w => ⟨fun e => ?_, fun e => ?_⟩⟩, fun i0 => bad (by omega)⟩⟩⟩)
  · rw [w.2.2.2.1.1] at e
    unfold qRB
    rw [if_pos ⟨⟨by omega, by omega⟩, i0⟩, if_neg (by omega)]
    exact ⟨rfl, w.2.1, w.2.2.1, rcI_of ⟨by omega, by omega⟩ w.2.2.2.2 w.2.2.2.1⟩
  · rw [w.2.2.2.1.1] at e
    unfold qRB
    rw [if_pos ⟨⟨by omega, by omega⟩, i0⟩, if_pos (by omega), sqI_at w.2.2.2.1.2 (by omega)]
    exact ⟨⟨by omega, by omega⟩, rfl, w.2.1, w.2.2.1, rcI_of ⟨by omega, by omega⟩ w.2.2.2.2 w.2.2.2.1⟩
