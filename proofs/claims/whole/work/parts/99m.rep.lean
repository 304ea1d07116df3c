/-! REPORTS: lines -/
def xTx (x : Int) : List Int := if x = 16 then [120] else nTx x
def lnT (v l x : Int) : List Int := aTx v ++ ([47] ++ (nTx l ++ ([32] ++ (xTx x ++ [10]))))
def lnG (v n : Int) : List Int := aTx v ++ ([32] ++ (nTx n ++ [10]))
theorem tp_99 {n : Int} (h : n ≤ 99) : tp n ≤ 1 := by unfold tp; (repeat' split) <;> omega
theorem xTx_len {x : Int} (h : x ≤ 16) : (xTx x).length ≤ 2 := by
  unfold xTx
  split
  · decide
  · have := tp_99 (n := x) (by omega)
    rw [nTx_len]
    omega
theorem lnT_len (v : Int) {l x : Int} (hl : l ≤ 32) (hx : x ≤ 16) : (lnT v l x).length ≤ 22 := by
  unfold lnT
  simp only [List.length_append, List.length_singleton, nTx_len]
  have h1 := aTx_len v
  have h2 := tp_99 (n := l) (by omega)
  have h3 := xTx_len hx
  omega
theorem lnG_len (v n : Int) : (lnG v n).length ≤ 23 := by
  unfold lnG
  simp only [List.length_append, List.length_singleton, nTx_len]
  have h1 := aTx_len v
  have h2 := tp_le n
  omega
def prT (L : List (Int × Int)) : List Int := L.flatMap fun q => lnT (q.1 / 64) (q.1 % 64) q.2
def prG (L : List (Int × Int)) : List Int := L.flatMap fun q => lnG q.1 q.2
theorem prT_take {L : List (Int × Int)} {i : Nat} {q : Int × Int} (h : L[i]? = some q) : prT (L.take (i + 1)) = prT (L.take i) ++ lnT (q.1 / 64) (q.1 % 64) q.2 := by
  rw [take_succ_get L i q h]
  simp [prT]
theorem prG_take {L : List (Int × Int)} {i : Nat} {q : Int × Int} (h : L[i]? = some q) : prG (L.take (i + 1)) = prG (L.take i) ++ lnG q.1 q.2 := by
  rw [take_succ_get L i q h]
  simp [prG]
theorem prT_len : ∀ (L : List (Int × Int)), (∀ q ∈ L, q.1 % 64 ≤ 32 ∧ q.2 ≤ 16) → (prT L).length ≤ 22 * L.length
  | [], _ => Nat.le_refl _
  | q :: L, h => by
    have h1 := prT_len L (fun r hr => h r (List.mem_cons_of_mem _ hr))
    have h2 := h q List.mem_cons_self
    have h3 := lnT_len (q.1 / 64) h2.1 h2.2
    have e : prT (q :: L) = lnT (q.1 / 64) (q.1 % 64) q.2 ++ prT L := by simp [prT]
    rw [e, List.length_append, List.length_cons]
    omega
theorem prG_len : ∀ (L : List (Int × Int)), (prG L).length ≤ 23 * L.length
  | [] => Nat.le_refl _
  | q :: L => by
    have h1 := prG_len L
    have h3 := lnG_len q.1 q.2
    have e : prG (q :: L) = lnG q.1 q.2 ++ prG L := by simp [prG]
    rw [e, List.length_append, List.length_cons]
    omega
theorem prT_le {L : List (Int × Int)} (hL : ∀ q ∈ L, q.1 % 64 ≤ 32 ∧ q.2 ≤ 16) (i : Nat) : (prT (L.take i)).length ≤ 22 * i := by
  have h1 := prT_len (L.take i) (fun q hq => hL q (List.mem_of_mem_take hq))
  have h2 := List.length_take_le i L
  omega
theorem prG_le (L : List (Int × Int)) (i : Nat) : (prG (L.take i)).length ≤ 23 * i := by
  have h1 := prG_len (L.take i)
  have h2 := List.length_take_le i L
  omega
theorem c_Mo_writesLine {h : ftH} {X : List Int} (hX : txI h X) (hl : X.length + 22 ≤ 2400) {v l x : Int} (h1 : 0 ≤ l ∧ l ≤ 32) (h2 : 0 ≤ x ∧ x ≤ 16) : ft_C k_Mo_writesLine [.inr (.inr 309), .inl v, .inl l, .inl x] h (fun r h' => r = none ∧ txI h' (X ++ lnT (pUn v) l x) ∧ mTf h h') := by
  have l1 := aTx_len (pUn v)
  have l2 := tp_99 (n := l) (by omega)
  have l3 := tp_99 (n := x) (by omega)
  refine ft_enter (n := 0) rfl (Nat.le_of_ble_eq_true rfl) rfl (fv_okl (i := 1) rfl (fun hv => b_Mo_writesLine_0 ⟨_, c_Mo_writesAddress hv hX (by omega), fun g1 w1 => ⟨_, c_Mo_writesSign w1.2.1 (by simp only [List.length_append]; omega), fun g2 w2 => ⟨_, c_Mo_writesNumber ⟨by omega, by omega⟩ w2.2.1 (by simp only [List.length_append, List.length_singleton]; omega), fun g3 w3 => ⟨_, c_Mo_writesSign w3.2.1 (by simp only [List.length_append, List.length_singleton, nTx_len]; omega), fun g4 w4 => ⟨fun c => ⟨_, c_Mo_writesNumber ⟨by omega, by omega⟩ w4.2.1 (by simp only [List.length_append, List.length_singleton, nTx_len]; omega), fun g5 w5 => ⟨_, c_Mo_writesSign w5.2.1 (by simp only [List.length_append, List.length_singleton, nTx_len]; omega), fun g6 w6 => ?_⟩⟩, fun c => ⟨_, c_Mo_writesSign w4.2.1 (by simp only [List.length_append, List.length_singleton, nTx_len]; omega), fun g5 w5 => ⟨_, c_Mo_writesSign w5.2.1 (by simp only [List.length_append, List.length_singleton, nTx_len]; omega), fun g6 w6 => ?_⟩⟩⟩⟩⟩⟩⟩))
  · refine ⟨rfl, ?_, mTf_tr w1.2.2 (mTf_tr w2.2.2 (mTf_tr w3.2.2 (mTf_tr w4.2.2 (mTf_tr w5.2.2 w6.2.2))))⟩
    have := w6.2.1
    unfold lnT xTx
    rw [if_neg c]
    simp only [List.append_assoc] at this ⊢
    exact this
  · refine ⟨rfl, ?_, mTf_tr w1.2.2 (mTf_tr w2.2.2 (mTf_tr w3.2.2 (mTf_tr w4.2.2 (mTf_tr w5.2.2 w6.2.2))))⟩
    have := w6.2.1
    unfold lnT xTx
    rw [if_pos c]
    simp only [List.append_assoc] at this ⊢
    exact this
theorem v_Re_pre {h0 : ftH} {a : Nat} (ha : ft_sh a = some (.inl 4)) (ha2 : a + 2 < 294) {L : List (Int × Int)} (hS : setI h0 a L) (hL : lOk L) (h80 : L.length ≤ 80) {R : Option ftV → ftH → Prop} (hk : ∀ h', rpI h' (prT L) → cTf h0 h' → R none h') : ∀ (m i : Nat) (g : ftH), i + m = L.length → rpI g (prT (L.take i)) → cTf h0 g → ft_V k_Re_addPrefixes 2 [some (.inr (.inr 294)), some (.inr (.inr a)), some (.inl (i : Int))] [] g R := by
  have hln := ft_ln_ps ha
  have hb : ∀ q ∈ L, q.1 % 64 ≤ 32 ∧ q.2 ≤ 16 := fun q hq => ⟨(hL.1 q hq).1.2.1, (hL.1 q hq).2.2⟩
  intro m
  induction m with
  | zero =>
    intro i g hm hr f
    refine b_Re_addPrefixes_2 ha ⟨fun _ => hk g (by rw [← List.take_of_length_le (show L.length ≤ i by omega)]; exact hr) f, fun c => absurd (by rw [f.1 a (by omega) (by omega), hS.1]; omega) c⟩
  | succ m ih =>
    intro i g hm hr f
    have hi : i < L.length := by omega
    have hp := kAt_pK hL hi
    have hq := hL.1 _ (kAt_in hi)
    have hs := hS.2.2 i hi
    have hlL := hS.2.1
    have hle := prT_le hb i
    have l1 := aTx_len (kAt L i / 64)
    have l2 := tp_99 (n := kAt L i % 64) (by omega)
    have l3 := tp_99 (n := vAt L i) (by have := hq.2.2; simp only at this; omega)
    have hv : 0 ≤ vAt L i ∧ vAt L i ≤ 16 := hq.2
    have e1 : ∀ g' : ftH, cTf h0 g' → g' (a + 1) i = kAt L i ∧ g' (a + 2) i = vAt L i := fun g' f' => by rw [f'.1 (a + 1) (by omega) (by omega), f'.1 (a + 2) (by omega) (by omega)]; exact hs
    have nx : ∀ g' : ftH, rpI g' (prT (L.take i) ++ lnT (kAt L i / 64) (kAt L i % 64) (vAt L i)) → cTf h0 g' → ft_V k_Re_addPrefixes 2 [some (.inr (.inr 294)), some (.inr (.inr a)), some (.inl (ft_add (i : Int) 1))] [] g' R := fun g' r' f' => by
      rw [inc1 (by omega)]
      exact ih (i + 1) g' (by omega) (by rw [prT_take (kAt_get hi)]; exact r') f'
    refine b_Re_addPrefixes_2 ha ⟨fun c => absurd c (by rw [f.1 a (by omega) (by omega), hS.1]; omega), fun _ => ?_⟩
    rw [Int.toNat_natCast, (e1 g f).1]
    refine ⟨⟨by omega, by omega⟩, hp.1.1, _, c_Re_addAddress ⟨by have := hp.1; omega, by have := hp.1; omega⟩ hr (by omega), fun g1 w1 => ⟨_, c_Re_addSign (x := 47) w1.2.1 (by simp only [List.length_append]; omega) (by omega) (by omega), fun g2 w2 => ?_⟩⟩
    have f2 : cTf h0 g2 := cTf_tr f (cTf_tr w1.2.2 w2.2.2)
    rw [(e1 g2 f2).1]
    refine ⟨⟨by omega, by omega⟩, hp.1.1, _, c_Re_addNumber (n := kAt L i % 64) ⟨by omega, by omega⟩ w2.2.1 (by simp only [List.length_append, List.length_singleton]; omega), fun g3 w3 => ⟨_, c_Re_addSign (x := 32) w3.2.1 (by simp only [List.length_append, List.length_singleton, nTx_len]; omega) (by omega) (by omega), fun g4 w4 => ?_⟩⟩
    have f4 : cTf h0 g4 := cTf_tr f2 (cTf_tr w3.2.2 w4.2.2)
    rw [(e1 g4 f4).2]
    refine ⟨⟨by omega, by omega⟩, fun c => ⟨⟨by omega, by omega⟩, _, c_Re_addNumber (n := vAt L i) ⟨by omega, by omega⟩ w4.2.1 (by simp only [List.length_append, List.length_singleton, nTx_len]; omega), fun g5 w5 => ⟨_, c_Re_addSign (x := 10) w5.2.1 (by simp only [List.length_append, List.length_singleton, nTx_len]; omega) (by omega) (by omega), fun g6 w6 => nx g6 ?_ (cTf_tr f4 (cTf_tr w5.2.2 w6.2.2))⟩⟩, fun c => ⟨_, c_Re_addSign (x := 120) w4.2.1 (by simp only [List.length_append, List.length_singleton, nTx_len]; omega) (by omega) (by omega), fun g5 w5 => ⟨_, c_Re_addSign (x := 10) w5.2.1 (by simp only [List.length_append, List.length_singleton, nTx_len]; omega) (by omega) (by omega), fun g6 w6 => nx g6 ?_ (cTf_tr f4 (cTf_tr w5.2.2 w6.2.2))⟩⟩⟩
    · have := w6.2.1
      unfold lnT xTx
      rw [if_neg c]
      simp only [List.append_assoc] at this ⊢
      exact this
    · have := w6.2.1
      unfold lnT xTx
      rw [if_pos c]
      simp only [List.append_assoc] at this ⊢
      exact this
theorem c_Re_addPrefixes {h : ftH} {a : Nat} (ha : ft_sh a = some (.inl 4)) (ha2 : a + 2 < 294) {L : List (Int × Int)} (hS : setI h a L) (hL : lOk L) (h80 : L.length ≤ 80) (hr : rpI h []) : ft_C k_Re_addPrefixes [.inr (.inr 294), .inr (.inr a)] h (fun r h' => r = none ∧ rpI h' (prT L) ∧ cTf h h') :=
  ft_enter (n := 1) rfl (Nat.le_of_ble_eq_true rfl) rfl (b_Re_addPrefixes_0 ha (v_Re_pre ha ha2 hS hL h80 (fun h' a b => ⟨rfl, a, b⟩) L.length 0 h (by omega) hr ⟨fun _ _ _ => rfl, fun _ _ => rfl⟩))
theorem v_Re_tra {h0 : ftH} (ht : ft_tw h0 8) {R : Option ftV → ftH → Prop} (hk : ∀ h', rpI h' (prG (ft_pl h0 8)) → cTf h0 h' → R none h') : ∀ (m i : Nat) (g : ftH), i + m = (ft_pl h0 8).length → rpI g (prG ((ft_pl h0 8).take i)) → cTf h0 g → ft_V k_Re_addTraffic 2 [some (.inr (.inr 294)), some (.inr (.inr 8)), some (.inl (i : Int))] [] g R := by
  have hlen := ft_pl_len h0 8
  intro m
  induction m with
  | zero =>
    intro i g hm hr f
    have := ht.1
    refine b_Re_addTraffic_2 sh_8 ⟨fun _ => hk g (by rw [← List.take_of_length_le (show (ft_pl h0 8).length ≤ i by omega)]; exact hr) f, fun c => absurd (by rw [f.1 8 (by omega) (by omega)]; omega) c⟩
  | succ m ih =>
    intro i g hm hr f
    have h40 := ht.1
    have hi : (i : Int) < h0 8 2 := by omega
    have hs := ht.2 i hi
    have hle := prG_le (ft_pl h0 8) i
    have l1 := aTx_len (h0 9 i)
    have l2 := tp_le (h0 10 i)
    simp only [Nat.reduceAdd] at hs
    have e1 : ∀ g' : ftH, cTf h0 g' → g' (8 + 1) i = h0 9 i ∧ g' (8 + 2) i = h0 10 i := fun g' f' => ⟨by rw [f'.1 (8 + 1) (by omega) (by omega)], by rw [f'.1 (8 + 2) (by omega) (by omega)]⟩
    have nx : ∀ g' : ftH, rpI g' (prG ((ft_pl h0 8).take i) ++ lnG (h0 9 i) (h0 10 i)) → cTf h0 g' → ft_V k_Re_addTraffic 2 [some (.inr (.inr 294)), some (.inr (.inr 8)), some (.inl (ft_add (i : Int) 1))] [] g' R := fun g' r' f' => by
      rw [inc1 (by omega)]
      exact ih (i + 1) g' (by omega) (by rw [prG_take (ft_pl_get hi)]; exact r') f'
    refine b_Re_addTraffic_2 sh_8 ⟨fun c => absurd c (by rw [f.1 8 (by omega) (by omega)]; omega), fun _ => ?_⟩
    rw [Int.toNat_natCast, (e1 g f).1]
    refine ⟨⟨by omega, by omega⟩, _, c_Re_addAddress hs.1 hr (by omega), fun g1 w1 => ⟨_, c_Re_addSign (x := 32) w1.2.1 (by simp only [List.length_append]; omega) (by omega) (by omega), fun g2 w2 => ?_⟩⟩
    have f2 : cTf h0 g2 := cTf_tr f (cTf_tr w1.2.2 w2.2.2)
    rw [(e1 g2 f2).2]
    refine ⟨⟨by omega, by omega⟩, _, c_Re_addNumber (n := h0 10 i) ⟨by omega, by omega⟩ w2.2.1 (by simp only [List.length_append, List.length_singleton]; omega), fun g3 w3 => ⟨_, c_Re_addSign (x := 10) w3.2.1 (by simp only [List.length_append, List.length_singleton, nTx_len]; omega) (by omega) (by omega), fun g4 w4 => nx g4 ?_ (cTf_tr f2 (cTf_tr w3.2.2 w4.2.2))⟩⟩
    have := w4.2.1
    unfold lnG
    simp only [List.append_assoc] at this ⊢
    exact this
theorem c_Re_addTraffic {h : ftH} (ht : ft_tw h 8) (hr : rpI h []) : ft_C k_Re_addTraffic [.inr (.inr 294), .inr (.inr 8)] h (fun r h' => r = none ∧ rpI h' (prG (ft_pl h 8)) ∧ cTf h h') :=
  ft_enter (n := 1) rfl (Nat.le_of_ble_eq_true rfl) rfl (b_Re_addTraffic_0 sh_8 (v_Re_tra ht (fun h' a b => ⟨rfl, a, b⟩) (ft_pl h 8).length 0 h (by omega) hr ⟨fun _ _ _ => rfl, fun _ _ => rfl⟩))
