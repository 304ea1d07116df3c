/-! REPORTS: writing an address -/
theorem mTf_tr {h g k : ftH} (a : mTf h g) (b : mTf g k) : mTf h k := ⟨fun c c1 c2 => by rw [b.1 c c1 c2, a.1 c c1 c2], fun j hj => by rw [b.2 j hj, a.2 j hj]⟩
theorem cTf_tr {h g k : ftH} (a : cTf h g) (b : cTf g k) : cTf h k := ⟨fun c c1 c2 => by rw [b.1 c c1 c2, a.1 c c1 c2], fun j hj => by rw [b.2 j hj, a.2 j hj]⟩
theorem m8 {a b : Int} (e : a = b + 8) (h : -8 ≤ b ∧ b ≤ 100) : ft_add a (-8) = b := by
  rw [ft_add_eq (by unfold ft_in; omega)]
  omega
theorem c_Mo_writesAddress {h : ftH} {v : Int} (hv : ft_in v) {X : List Int} (hX : txI h X) (hl : X.length + 15 ≤ 2400) : ft_C k_Mo_writesAddress [.inr (.inr 309), .inl v] h (fun r h' => r = none ∧ txI h' (X ++ aTx (pUn v)) ∧ mTf h h') := by
  have st : ∀ (k : Nat) (Y : List Int) (g : ftH) (R : Option ftV → ftH → Prop), (k = 8 ∨ k = 16 ∨ k = 24) → txI g Y → Y.length + 4 ≤ 2400 → (∀ g', txI g' (Y ++ bTx (pUn v) k ++ [46]) → mTf g g' → ft_V k_Mo_writesAddress 3 [some (.inr (.inr 309)), some (.inl v), some (.inl ((k : Int) - 8))] [] g' R) → ft_V k_Mo_writesAddress 3 [some (.inr (.inr 309)), some (.inl v), some (.inl (k : Int))] [] g R := by
    intro k Y g R hk hY hl' hn
    have hb := by_Mo (s := (k : Int)) hv (by omega)
    rw [Int.toNat_natCast] at hb
    have ht := tp_255 (n := pUn v / 2 ^ k % 256) (by omega)
    have hbl := bTx_len (pUn v) k
    refine b_Mo_writesAddress_3 ⟨fun c => absurd c (by omega), fun _ => ?_⟩
    rw [hb, m8 (b := (k : Int) - 8) (by omega) (by omega)]
    refine ⟨_, c_Mo_writesNumber ⟨by omega, by omega⟩ hY (by omega), fun g1 w => ⟨fun c => absurd c (by omega), fun _ => ⟨_, c_Mo_writesSign w.2.1 (by
      have : (Y ++ bTx (pUn v) k).length < 2400 := by rw [List.length_append]; omega
      exact this), fun g2 w2 => hn g2 w2.2.1 (mTf_tr w.2.2 ⟨w2.2.2.1, w2.2.2.2⟩)⟩⟩⟩
  refine ft_enter (n := 1) rfl (Nat.le_of_ble_eq_true rfl) rfl (b_Mo_writesAddress_0 ?_)
  have b1 := bTx_len (pUn v) 24
  have b2 := bTx_len (pUn v) 16
  have b3 := bTx_len (pUn v) 8
  refine st 24 X h _ (by omega) hX (by omega) (fun g1 y1 f1 => ?_)
  refine st 16 _ g1 _ (by omega) y1 (by simp only [List.length_append, List.length_singleton]; omega) (fun g2 y2 f2 => ?_)
  refine st 8 _ g2 _ (by omega) y2 (by simp only [List.length_append, List.length_singleton]; omega) (fun g3 y3 f3 => ?_)
  have hb := by_Mo (s := 0) hv (by omega)
  have ht := tp_255 (n := pUn v / 2 ^ 0 % 256) (by omega)
  have e0 : ((8 : Nat) : Int) - 8 = 0 := by omega
  rw [e0]
  refine b_Mo_writesAddress_3 ⟨fun c => absurd c (by omega), fun _ => ?_⟩
  rw [hb, m8 (b := -8) (by omega) (by omega)]
  refine ⟨_, c_Mo_writesNumber (n := pUn v / 2 ^ 0 % 256) ⟨by omega, by omega⟩ y3 (by simp only [List.length_append, List.length_singleton]; omega), fun g4 w => ⟨fun _ => b_Mo_writesAddress_3 ⟨fun _ => ⟨rfl, ?_, mTf_tr f1 (mTf_tr f2 (mTf_tr f3 w.2.2))⟩, fun c => absurd (by omega) c⟩, fun c => absurd (by omega) c⟩⟩
  have := w.2.1
  unfold aTx
  simp only [List.append_assoc] at this ⊢
  exact this
