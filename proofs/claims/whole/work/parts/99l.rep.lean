/-! REPORTS: writing an address, the class -/
theorem c_Re_addAddress {h : ftH} {v : Int} (hv : 0 ≤ v ∧ v < 4294967296) {X : List Int} (hX : rpI h X) (hl : X.length + 15 ≤ 1760) : ft_C k_Re_addAddress [.inr (.inr 294), .inr (.inl v)] h (fun r h' => r = none ∧ rpI h' (X ++ aTx v) ∧ cTf h h') := by
  have st : ∀ (k : Nat) (Y : List Int) (g : ftH) (R : Option ftV → ftH → Prop), (k = 8 ∨ k = 16 ∨ k = 24) → rpI g Y → Y.length + 4 ≤ 1760 → (∀ g', rpI g' (Y ++ bTx v k ++ [46]) → cTf g g' → ft_V k_Re_addAddress 3 [some (.inr (.inr 294)), some (.inr (.inl v)), none, some (.inl ((k : Int) - 8))] [] g' R) → ft_V k_Re_addAddress 3 [some (.inr (.inr 294)), some (.inr (.inl v)), none, some (.inl (k : Int))] [] g R := by
    intro k Y g R hk hY hl' hn
    have hb := by_Re (s := (k : Int)) hv (by omega)
    rw [Int.toNat_natCast] at hb
    have ht := tp_255 (n := v / 2 ^ k % 256) (by omega)
    have hbl := bTx_len v k
    refine b_Re_addAddress_3 ⟨fun c => absurd c (by omega), fun _ => ?_⟩
    rw [hb, m8 (b := (k : Int) - 8) (by omega) (by omega)]
    refine ⟨_, c_Re_addNumber ⟨by omega, by omega⟩ hY (by omega), fun g1 w => ⟨fun c => absurd c (by omega), fun _ => ⟨_, c_Re_addSign (x := 46) w.2.1 (by
      have : (Y ++ bTx v k).length < 1760 := by rw [List.length_append]; omega
      exact this) (by omega) (by omega), fun g2 w2 => hn g2 w2.2.1 (cTf_tr w.2.2 ⟨w2.2.2.1, w2.2.2.2⟩)⟩⟩⟩
  refine ft_enter (n := 1) rfl (Nat.le_of_ble_eq_true rfl) rfl (b_Re_addAddress_0 ?_)
  have b1 := bTx_len v 24
  have b2 := bTx_len v 16
  have b3 := bTx_len v 8
  refine st 24 X h _ (by omega) hX (by omega) (fun g1 y1 f1 => ?_)
  refine st 16 _ g1 _ (by omega) y1 (by simp only [List.length_append, List.length_singleton]; omega) (fun g2 y2 f2 => ?_)
  refine st 8 _ g2 _ (by omega) y2 (by simp only [List.length_append, List.length_singleton]; omega) (fun g3 y3 f3 => ?_)
  have hb := by_Re (s := 0) hv (by omega)
  have ht := tp_255 (n := v / 2 ^ 0 % 256) (by omega)
  have e0 : ((8 : Nat) : Int) - 8 = 0 := by omega
  rw [e0]
  refine b_Re_addAddress_3 ⟨fun c => absurd c (by omega), fun _ => ?_⟩
  rw [hb, m8 (b := -8) (by omega) (by omega)]
  refine ⟨_, c_Re_addNumber (n := v / 2 ^ 0 % 256) ⟨by omega, by omega⟩ y3 (by simp only [List.length_append, List.length_singleton]; omega), fun g4 w => ⟨fun _ => b_Re_addAddress_3 ⟨fun _ => ⟨rfl, ?_, cTf_tr f1 (cTf_tr f2 (cTf_tr f3 w.2.2))⟩, fun c => absurd (by omega) c⟩, fun c => absurd (by omega) c⟩⟩
  have := w.2.1
  unfold aTx
  simp only [List.append_assoc] at this ⊢
  exact this
