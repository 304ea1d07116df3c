/-! SYNC OF THE REFERENCE: the preparation -/
/-- what the making of changes leaves alone -/
def rFr (h h' : ftH) : Prop := (∀ c, c ≠ 309 → c ≠ 310 → h' c = h c) ∧ ∀ j, ¬ (27 ≤ j ∧ j ≤ 30) → h' 309 j = h 309 j
theorem rFr_rfl (h : ftH) : rFr h h := ⟨fun _ _ _ => rfl, fun _ _ => rfl⟩
theorem rFr_tr {h g k : ftH} (a : rFr h g) (b : rFr g k) : rFr h k := ⟨fun c c1 c2 => by rw [b.1 c c1 c2, a.1 c c1 c2], fun j hj => by rw [b.2 j hj, a.2 j hj]⟩
def kI (h : ftH) (S : ftS) : Prop := tgI h (tOf S) ∧ laI h S ∧ h 309 20 ≠ 0
theorem tgI_fr {h h' : ftH} {T : List (Int × Int)} (f : rFr h h') (ht : tgI h T) : tgI h' T := by
  unfold tgI tgA at ht ⊢
  rw [f.2 26 (by omega), f.1 326 (by omega) (by omega), f.1 327 (by omega) (by omega), f.1 328 (by omega) (by omega)]
  exact ht
theorem laI_fr {h h' : ftH} {S : ftS} (f : rFr h h') (hl : laI h S) : laI h' S := by
  refine ⟨enI_fr hl.1 (f.2 14 (by omega)) (f.1 318 (by omega) (by omega)) (f.1 319 (by omega) (by omega)) (f.1 320 (by omega) (by omega)), fun i hi => ?_, by rw [f.2 21 (by omega)]; exact hl.2.2⟩
  rw [f.1 321 (by omega) (by omega), f.1 322 (by omega) (by omega), f.1 325 (by omega) (by omega)]
  exact hl.2.1 i hi
theorem kI_fr {h h' : ftH} {S : ftS} (f : rFr h h') (hk : kI h S) : kI h' S := ⟨tgI_fr f hk.1, laI_fr f hk.2.1, by rw [f.2 20 (by omega)]; exact hk.2.2⟩
theorem laI_S {h : ftH} {S S' : ftS} (e1 : S'.1 = S.1) (e2 : S'.2.1 = S.2.1) (e3 : S'.2.2.2.1 = S.2.2.2.1) (hl : laI h S) : laI h S' := by
  have a1 : eOf S' = eOf S := by unfold eOf; rw [e2]
  have a2 : hOf S' = hOf S := by unfold hOf; rw [a1, e3]
  have a3 : bB S' = bB S := by unfold bB; rw [a1, a2, e1]
  have a4 : bL S' = bL S := by funext c; unfold bL; rw [a1, a2]
  unfold laI
  rw [a1, a2, a3, a4, e1]
  exact hl
/-- what sync leaves alone -/
def zFr (h h' : ftH) : Prop := (∀ c, (c < 313 ∧ c ≠ 309 ∧ c ≠ 310) ∨ (329 ≤ c ∧ c ≤ 332) → h' c = h c) ∧ ∀ j, j = 4 ∨ 34 ≤ j → h' 309 j = h 309 j
theorem zFr_r {h g k : ftH} (a : zFr h g) (b : rFr g k) : zFr h k := ⟨fun c hc => by rw [b.1 c (by omega) (by omega), a.1 c hc], fun j hj => by rw [b.2 j (by omega), a.2 j hj]⟩
theorem rFr_310 {h h' : ftH} (f : ∀ c, c ≠ 310 → h' c = h c) : rFr h h' := ⟨fun c _ c2 => f c c2, fun j _ => by rw [f 309 (by omega)]⟩
theorem c_Mo_preparesSync {h : ftH} {S : ftS} {P : List ftS} (hI : mcI h S P) {B : Int} (hB : B ≤ 1000000000) (hok : sOk B S) (hla : flI h S) : ft_C k_Mo_preparesSync [.inr (.inr 309)] h (fun r h' => r = none ∧ zFr h h' ∧ kI h' S ∧ mcI h' (S.1, S.2.1, sH S, S.2.2.2.1, sCt S) P) := by
  have hT := tOf_ok hok
  have hcap := hok.1
  have hHl := hok.2.2.1.2
  refine ft_enter (n := 2) rfl (Nat.le_of_ble_eq_true rfl) rfl (b_Mo_preparesSync_0 ⟨_, d_Mo_laysTarget hI hok hla, fun h1 hw n3 e3 => ?_⟩)
  obtain ⟨-, u1, u2, u3, u4⟩ := hw
  have hI1 := qFr_mc u1 hI
  have z1 : zFr h h1 := ⟨fun c hc => by
    by_cases t : c = 312 ∨ c = 329 ∨ c = 332
    · exact u4 c t
    · exact u1.1 c (by omega), u1.2⟩
  have hk1 : kI h1 S := ⟨u3, u2.1, u2.2⟩
  have l2 := (mc_len hI1).2.1
  have e0 := (mc_eq hI1).1
  have tb : ∀ i, togC S.2.2.1 ((tOf S).take i) ≤ 140 := fun i => by
    have := tog_le (H := S.2.2.1) (T := (tOf S).take i)
    rw [List.length_take] at this
    omega
  have loop : ∀ m i : Nat, i + m = (tOf S).length → ft_V k_Mo_preparesSync 13 [some (.inr (.inr 309)), some (.inl (togC S.2.2.1 ((tOf S).take i) : Int)), some (.inl (i : Int))] [] h1 (fun r h' => r = none ∧ zFr h h' ∧ kI h' S ∧ mcI h' (S.1, S.2.1, sH S, S.2.2.2.1, sCt S) P) := by
    intro m
    induction m with
    | zero =>
      intro i hm
      refine b_Mo_preparesSync_13 ⟨fun _ => ?_, fun c => absurd (by rw [u3.1]; omega) c⟩
      rw [List.take_of_length_le (by omega), e0, ft_mul_eq (by unfold ft_in; omega)]
      refine ⟨fun t => ⟨rfl, z1, hk1, ?_⟩, fun t => ⟨_, v_Mo_clears hI1 hB hok.2.2.2.2, fun h2 w => ?_⟩⟩
      · unfold sH plH sCt
        rw [if_pos t, if_pos t]
        exact hI1
      · obtain ⟨-, w1, w2⟩ := w
        refine ⟨rfl, zFr_r z1 (rFr_310 w1), kI_fr (rFr_310 w1) hk1, ?_⟩
        unfold sH plH sCt
        rw [if_neg t, if_neg t]
        exact w2
    | succ m ih =>
      intro i hm
      have ha := tgI_at u3 (show i < (tOf S).length by omega)
      have hri := u3.2.2 i (by omega)
      have hi := ih (i + 1) (by omega)
      rw [tog_take (by omega)] at hi
      have htb := tb i
      refine fv_wf (fun hw => b_Mo_preparesSync_13 ⟨fun c => absurd c (by rw [u3.1]; omega), fun _ => ⟨⟨by omega, by omega⟩, ⟨by omega, by omega⟩, _, c_Mo_hwAt hI1 (hw 326 _) (by rw [Int.toNat_natCast]; exact hri), fun z h2 _ w => ?_⟩⟩)
      obtain ⟨rfl, r, w1, w2⟩ := w
      have hz := injI w1
      subst hz
      rw [Int.toNat_natCast, ← ha.1] at w2
      rw [inc1 (by omega), inc1 (by omega)]
      rcases w2 with ⟨r1, r2⟩ | ⟨p, r1, -, -, -, r2⟩
      · rw [if_neg r2] at hi
        exact ⟨fun c => absurd c (by omega), fun _ => hi⟩
      · rw [if_pos r2, Nat.add_zero] at hi
        exact ⟨fun _ => hi, fun c => absurd (by omega) c⟩
  have h0 := loop (tOf S).length 0 (by omega)
  rw [e3, ← l2]
  exact h0
