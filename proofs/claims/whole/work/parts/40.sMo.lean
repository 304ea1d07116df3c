/-! the reference's putting in; the longest match is the last one -/
theorem v_Mo_putsIn_46 {h0 : ftH} {o k : Nat} (hk1 : 1 ≤ k) (ho : o + 3 * k + 3 ≤ 520) {v l x : Int} {R : Option ftV → ftH → Prop} (hk : ∀ h' : ftH, (∀ c, c ≠ 310 → h' c = h0 c) → (∀ j, j < o + 3 * k ∨ o + 3 * k + 3 ≤ j → h' 310 j = h0 310 j) → (∀ d, d < 3 → h' 310 (o + 3 * k + d) = h0 310 (o + 3 * k - 3 + d)) → ft_V k_Mo_putsIn 3 [some (.inr (.inr 309)), some (.inl (o : Int)), none, some (.inl v), some (.inl l), some (.inl x), some (.inl ((k - 1 : Nat) : Int)), none] [] h' R) :
    ∀ (m i : Nat) (h : ftH), i + m = 3 → (∀ c, c ≠ 310 → h c = h0 c) → (∀ j, j < o + 3 * k ∨ o + 3 * k + i ≤ j → h 310 j = h0 310 j) → (∀ d, d < i → h 310 (o + 3 * k + d) = h0 310 (o + 3 * k - 3 + d)) → ft_V k_Mo_putsIn 46 [some (.inr (.inr 309)), some (.inl (o : Int)), none, some (.inl v), some (.inl l), some (.inl x), some (.inl (k : Int)), some (.inl (i : Int))] [] h R := by
  have a1 := ix3 (o := o) (i := k) (by omega)
  have a2 : ft_sub ((o + 3 * k : Nat) : Int) 3 = ((o + 3 * k - 3 : Nat) : Int) := by rw [ft_sub_eq ⟨by omega, by omega⟩]; omega
  have a3 : ft_add (k : Int) (-1) = ((k - 1 : Nat) : Int) := by rw [ft_add_eq ⟨by omega, by omega⟩]; omega
  intro m
  induction m with
  | zero =>
    intro i h hi hf h1 h2
    refine b_Mo_putsIn_46 ?_
    rw [a1, a2, a3]
    exact ⟨fun c => hk h hf (fun j hj => h1 j (by omega)) (fun d hd => h2 d (by omega)), fun c => absurd (by omega) c⟩
  | succ m ih =>
    intro i h hi hf h1 h2
    refine b_Mo_putsIn_46 ?_
    have a4 : ft_add ((o + 3 * k - 3 : Nat) : Int) (i : Int) = ((o + 3 * k - 3 + i : Nat) : Int) := ix1 (by omega)
    have a5 : ft_add ((o + 3 * k : Nat) : Int) (i : Int) = ((o + 3 * k + i : Nat) : Int) := ix1 (by omega)
    have a6 : ft_add (i : Int) 1 = ((i + 1 : Nat) : Int) := ix1 (d := 1) (by omega)
    rw [a1, a2, a3, a4, a5, a6, Int.toNat_natCast, Int.toNat_natCast]
    refine ⟨fun c => absurd c (by omega), fun c => ⟨⟨by omega, by omega⟩, ⟨by omega, by omega⟩, fun g e => ?_⟩⟩
    rw [h1 (o + 3 * k - 3 + i) (by omega)] at e
    refine ih (i + 1) g (by omega) (fun c hc => by rw [e, ft_hs_ne c hc, hf c hc]) (fun j hj => by rw [e, ft_hs_j (by omega), h1 j (by omega)]) (fun d hd => ?_)
    by_cases q : d = i
    · rw [q, e, ft_hs_same]
    · rw [e, ft_hs_j (by omega), h2 d (by omega)]
theorem v_Mo_putsIn_3 {h0 : ftH} {o n : Nat} (ho : o + 3 * n + 3 ≤ 520) (hr : ∀ k, k < n → 0 ≤ h0 310 (o + 3 * k + 1) ∧ h0 310 (o + 3 * k + 1) ≤ 32) {v l x : Int} (hl : 0 ≤ l ∧ l ≤ 32) (hs : (ft_ml h0 310 o n).Pairwise (fun a b => a.1 < b.1)) (hne : ∀ q ∈ ft_ml h0 310 o n, q.1 ≠ 64 * pUn v + l) {R : Option ftV → ftH → Prop}
    (hk : ∀ h' : ftH, (∀ c, c ≠ 310 → h' c = h0 c) → (∀ j, j < o ∨ o + 3 * n + 3 ≤ j → h' 310 j = h0 310 j) → ft_ml h' 310 o (n + 1) = insK (64 * pUn v + l) x (ft_ml h0 310 o n) → (∀ k, k < n + 1 → 0 ≤ h' 310 (o + 3 * k + 1) ∧ h' 310 (o + 3 * k + 1) ≤ 32) → (∀ k, k < n + 1 → (h' 310 (o + 3 * k) = v ∨ ∃ k', k' < n ∧ h' 310 (o + 3 * k) = h0 310 (o + 3 * k'))) → R none h') :
    ∀ (k : Nat) (h : ftH), k ≤ n → (∀ c, c ≠ 310 → h c = h0 c) → (∀ j, j < o + 3 * k ∨ o + 3 * n + 3 ≤ j → h 310 j = h0 310 j) → (∀ j, o + 3 * k ≤ j → j < o + 3 * n → h 310 (j + 3) = h0 310 j) → (∀ j, k ≤ j → j < n → 64 * pUn v + l < 64 * pUn (h0 310 (o + 3 * j)) + h0 310 (o + 3 * j + 1)) →
      ft_V k_Mo_putsIn 3 [some (.inr (.inr 309)), some (.inl (o : Int)), none, some (.inl v), some (.inl l), some (.inl x), some (.inl (k : Int)), none] [] h R := by
  -- the three is laid at k
  have place : ∀ (k : Nat) (h : ftH), k ≤ n → (∀ c, c ≠ 310 → h c = h0 c) → (∀ j, j < o + 3 * k ∨ o + 3 * n + 3 ≤ j → h 310 j = h0 310 j) → (∀ j, o + 3 * k ≤ j → j < o + 3 * n → h 310 (j + 3) = h0 310 j) → (∀ j, k ≤ j → j < n → 64 * pUn v + l < 64 * pUn (h0 310 (o + 3 * j)) + h0 310 (o + 3 * j + 1)) → (∀ j, j < k → 64 * pUn (h0 310 (o + 3 * j)) + h0 310 (o + 3 * j + 1) < 64 * pUn v + l) →
      ∀ g1 : ftH, g1 = ft_hs h 310 (o + 3 * k) v → ∀ g2 : ftH, g2 = ft_hs g1 310 (o + 3 * k + 1) l → ∀ g3 : ftH, g3 = ft_hs g2 310 (o + 3 * k + 2) x → R none g3 := by
    intro k h hkn hf h1 h2 h3 h4 g1 e1 g2 e2 g3 e3
    have q0 : g3 310 (o + 3 * k) = v := by rw [e3, ft_hs_j (by omega), e2, ft_hs_j (by omega), e1, ft_hs_same]
    have q1 : g3 310 (o + 3 * k + 1) = l := by rw [e3, ft_hs_j (by omega), e2, ft_hs_same]
    have q2 : g3 310 (o + 3 * k + 2) = x := by rw [e3, ft_hs_same]
    have qo : ∀ j, j < o + 3 * k ∨ o + 3 * k + 3 ≤ j → g3 310 j = h 310 j := fun j hj => by rw [e3, ft_hs_j (by omega), e2, ft_hs_j (by omega), e1, ft_hs_j (by omega)]
    have up : ∀ j, k ≤ j → j < n → ∀ d, d < 3 → g3 310 (o + 3 * (j + 1) + d) = h0 310 (o + 3 * j + d) := fun j j1 j2 d hd => by
      rw [qo _ (by omega), show o + 3 * (j + 1) + d = o + 3 * j + d + 3 by omega]
      exact h2 _ (by omega) (by omega)
    refine hk g3 (fun c hc => by rw [e3, ft_hs_ne c hc, e2, ft_hs_ne c hc, e1, ft_hs_ne c hc, hf c hc]) (fun j hj => by rw [qo j (by omega), h1 j (by omega)]) ?_ (fun j hj => ?_) (fun j hj => ?_)
    · rw [insK_at _ x _ k (by rw [ft_ml_len]; omega) (fun j q hj hq => by
        rw [ft_ml_get (by omega)] at hq
        cases hq
        exact h4 j hj) (fun q hq => by
        have hlt := (List.getElem?_eq_some_iff.mp hq).1
        rw [ft_ml_len] at hlt
        rw [ft_ml_get hlt] at hq
        cases hq
        exact h3 k (Nat.le_refl k) hlt)]
      apply List.ext_getElem?
      intro i
      have hlen : (List.take k (ft_ml h0 310 o n)).length = k := by rw [List.length_take, ft_ml_len]; omega
      rcases Nat.lt_trichotomy i k with q | q | q
      · rw [List.getElem?_append_left (by omega), List.getElem?_take_of_lt q, ft_ml_get (by omega), ft_ml_get (by omega), qo (o + 3 * i) (by omega), qo (o + 3 * i + 1) (by omega), qo (o + 3 * i + 2) (by omega), h1 (o + 3 * i) (by omega), h1 (o + 3 * i + 1) (by omega), h1 (o + 3 * i + 2) (by omega)]
      · rw [List.getElem?_append_right (by omega), hlen, q, Nat.sub_self, List.getElem?_cons_zero, ft_ml_get (by omega), q0, q1, q2]
      · obtain ⟨d, rfl⟩ : ∃ d, i = k + 1 + d := ⟨i - k - 1, by omega⟩
        rw [List.getElem?_append_right (by omega), hlen, show k + 1 + d - k = d + 1 by omega, List.getElem?_cons_succ, List.getElem?_drop]
        by_cases c : k + d < n
        · have u0 := up (k + d) (by omega) c 0 (by omega)
          have u1 := up (k + d) (by omega) c 1 (by omega)
          have u2 := up (k + d) (by omega) c 2 (by omega)
          simp only [Nat.add_zero] at u0
          rw [ft_ml_get c, ft_ml_get (by omega), show k + 1 + d = k + d + 1 by omega, u0, u1, u2]
        · rw [ft_ml_none (by omega), ft_ml_none (by omega)]
    · rcases Nat.lt_trichotomy j k with q | q | q
      · rw [qo _ (by omega), h1 _ (by omega)]
        exact hr j (by omega)
      · rw [q, q1]
        exact hl
      · obtain ⟨d, rfl⟩ : ∃ d, j = d + 1 := ⟨j - 1, by omega⟩
        rw [up d (by omega) (by omega) 1 (by omega)]
        exact hr d (by omega)
    · rcases Nat.lt_trichotomy j k with q | q | q
      · exact Or.inr ⟨j, by omega, by rw [qo _ (by omega), h1 _ (by omega)]⟩
      · exact Or.inl (by rw [q, q0])
      · obtain ⟨d, rfl⟩ : ∃ d, j = d + 1 := ⟨j - 1, by omega⟩
        exact Or.inr ⟨d, by omega, up d (by omega) (by omega) 0 (by omega)⟩
  intro k
  induction k with
  | zero =>
    intro h hkn hf h1 h2 h3
    have a1 := ix3 (o := o) (i := 0) (by omega)
    have a2 : ft_add ((o + 3 * 0 : Nat) : Int) 1 = ((o + 3 * 0 + 1 : Nat) : Int) := ix1 (d := 1) (by omega)
    have a3 : ft_add ((o + 3 * 0 : Nat) : Int) 2 = ((o + 3 * 0 + 2 : Nat) : Int) := ix1 (d := 2) (by omega)
    refine b_Mo_putsIn_3 ⟨fun c => ?_, fun c => absurd (by omega) c⟩
    rw [a1, a2, a3, Int.toNat_natCast, Int.toNat_natCast, Int.toNat_natCast]
    exact ⟨⟨by omega, by omega⟩, fun g1 e1 => ⟨⟨by omega, by omega⟩, fun g2 e2 => ⟨⟨by omega, by omega⟩, fun g3 e3 => place 0 h hkn hf h1 h2 h3 (fun j hj => absurd hj (Nat.not_lt_zero j)) g1 e1 g2 e2 g3 e3⟩⟩⟩
  | succ k ih =>
    intro h hkn hf h1 h2 h3
    have a1 := ix3 (o := o) (i := k + 1) (by omega)
    have a2 : ft_add ((o + 3 * (k + 1) : Nat) : Int) 1 = ((o + 3 * (k + 1) + 1 : Nat) : Int) := ix1 (d := 1) (by omega)
    have a3 : ft_add ((o + 3 * (k + 1) : Nat) : Int) 2 = ((o + 3 * (k + 1) + 2 : Nat) : Int) := ix1 (d := 2) (by omega)
    have a4 : ft_sub ((o + 3 * (k + 1) : Nat) : Int) 3 = ((o + 3 * k : Nat) : Int) := by rw [ft_sub_eq ⟨by omega, by omega⟩]; omega
    have a5 : ft_sub ((o + 3 * (k + 1) : Nat) : Int) 2 = ((o + 3 * k + 1 : Nat) : Int) := by rw [ft_sub_eq ⟨by omega, by omega⟩]; omega
    have hrk := hr k (by omega)
    refine b_Mo_putsIn_3 ⟨fun c => absurd c (by omega), fun c => ?_⟩
    rw [a1, a2, a3, a4, a5]
    simp only [Int.toNat_natCast]
    rw [h1 (o + 3 * k) (by omega), h1 (o + 3 * k + 1) (by omega)]
    refine ⟨⟨by omega, by omega⟩, ⟨by omega, by omega⟩, ⟨hl, hrk⟩, fun d => ⟨⟨by omega, by omega⟩, fun g1 e1 => ⟨⟨by omega, by omega⟩, fun g2 e2 => ⟨⟨by omega, by omega⟩, fun g3 e3 => place (k + 1) h hkn hf h1 h2 h3 (fun j hj => ?_) g1 e1 g2 e2 g3 e3⟩⟩⟩, fun d => ?_⟩
    · have hek := List.getElem?_eq_some_iff.mp (ft_ml_get (h := h0) (c := 310) (o := o) (n := n) (i := k) (by omega))
      have hnk := hne _ (List.mem_of_getElem? (ft_ml_get (h := h0) (c := 310) (o := o) (n := n) (i := k) (by omega)))
      by_cases q : j = k
      · rw [q]
        simp only at hnk
        omega
      · have hej := List.getElem?_eq_some_iff.mp (ft_ml_get (h := h0) (c := 310) (o := o) (n := n) (i := j) (by omega))
        have := List.pairwise_iff_getElem.mp hs j k hej.1 hek.1 (by omega)
        rw [hej.2, hek.2] at this
        simp only at this hnk
        omega
    · refine v_Mo_putsIn_46 (h0 := h) (k := k + 1) (by omega) (by omega) (fun h' f1 f2 f3 => ?_) 3 0 h rfl (fun _ _ => rfl) (fun _ _ => rfl) (fun d hd => absurd hd (Nat.not_lt_zero d))
      rw [show k + 1 - 1 = k by omega]
      refine ih h' (by omega) (fun c hc => by rw [f1 c hc, hf c hc]) (fun j hj => by rw [f2 j (by omega), h1 j (by omega)]) (fun j j1 j2 => ?_) (fun j j1 j2 => ?_)
      · by_cases q : j < o + 3 * (k + 1)
        · have := f3 (j - (o + 3 * k)) (by omega)
          rw [show o + 3 * (k + 1) + (j - (o + 3 * k)) = j + 3 by omega, show o + 3 * (k + 1) - 3 + (j - (o + 3 * k)) = j by omega, h1 j (by omega)] at this
          exact this
        · rw [f2 (j + 3) (by omega)]
          exact h2 j (by omega) j2
      · by_cases q : j = k
        · rw [q]; exact d
        · exact h3 j (by omega) j2
theorem c_Mo_putsIn {h : ftH} {o n : Nat} (ho : o + 3 * n + 3 ≤ 520) (hr : ∀ k, k < n → 0 ≤ h 310 (o + 3 * k + 1) ∧ h 310 (o + 3 * k + 1) ≤ 32) {v l x : Int} (hl : 0 ≤ l ∧ l ≤ 32) (hs : (ft_ml h 310 o n).Pairwise (fun a b => a.1 < b.1)) (hne : ∀ q ∈ ft_ml h 310 o n, q.1 ≠ 64 * pUn v + l) : ft_C k_Mo_putsIn [.inr (.inr 309), .inl (o : Int), .inl (n : Int), .inl v, .inl l, .inl x] h (fun r h' => r = none ∧ (∀ c, c ≠ 310 → h' c = h c) ∧ (∀ j, j < o ∨ o + 3 * n + 3 ≤ j → h' 310 j = h 310 j) ∧ ft_ml h' 310 o (n + 1) = insK (64 * pUn v + l) x (ft_ml h 310 o n) ∧ (∀ k, k < n + 1 → 0 ≤ h' 310 (o + 3 * k + 1) ∧ h' 310 (o + 3 * k + 1) ≤ 32)) :=
  ft_enter (n := 2) rfl (Nat.le_of_ble_eq_true rfl) rfl (b_Mo_putsIn_0 (v_Mo_putsIn_3 ho hr hl hs hne (fun h' f1 f2 f3 f4 _ => ⟨rfl, f1, f2, f3, f4⟩) n h (Nat.le_refl n) (fun _ _ => rfl) (fun _ _ => rfl) (fun j j1 j2 => absurd j2 (by omega)) (fun j j1 j2 => absurd j2 (by omega))))
/-! of two prefixes that contain an address, the later in order is the longer -/
theorem pSz_dvd {a b : Int} (h0 : 0 ≤ a) (h : a ≤ b) (hb : b ≤ 32) : pSz b ∣ pSz a := by
  refine ⟨2 ^ (b.toNat - a.toNat), ?_⟩
  unfold pSz
  rw [← Int.pow_add, show 32 - b.toNat + (b.toNat - a.toNat) = 32 - a.toNat by omega]
/-- a value's start by the address: the value is the address's multiple -/
theorem pIn_val {k x : Int} (hk : pK k) (h : pIn k x) : k / 64 = pSz (k % 64) * (x / pSz (k % 64)) := by
  have hc := (pCt_iff hk).mpr h
  unfold pCt at hc
  have e := Int.mul_ediv_add_emod (k / 64) (pSz (k % 64))
  rw [hk.2.2, hc, Int.add_zero] at e
  exact e.symm
theorem pIn_nest {k1 k2 x : Int} (h1 : pK k1) (h2 : pK k2) (i1 : pIn k1 x) (i2 : pIn k2 x) (hlt : k1 < k2) : k1 % 64 < k2 % 64 := by
  by_cases c : k1 % 64 < k2 % 64
  · exact c
  · exfalso
    have hv1 := pIn_val h1 i1
    have hv2 := pIn_val h2 i2
    have hp1 := pSz_pos (k1 % 64)
    have hp2 := pSz_pos (k2 % 64)
    obtain ⟨d, hd⟩ := pSz_dvd (a := k2 % 64) (b := k1 % 64) (by omega) (by omega) h1.2.1
    generalize pSz (k1 % 64) = S1 at *
    generalize pSz (k2 % 64) = S2 at *
    have b2 : S2 * (x / S2) ≤ x := Int.mul_ediv_self_le (by omega)
    have hle : d * (x / S2) ≤ x / S1 := by
      rw [Int.le_ediv_iff_mul_le hp1]
      generalize x / S2 = y at *
      have : d * y * S1 = S2 * y := by rw [hd, Int.mul_comm (d * y) S1, Int.mul_assoc]
      omega
    have hle2 : S2 * (x / S2) ≤ S1 * (x / S1) := by
      generalize x / S2 = y at *
      generalize x / S1 = z at *
      rw [hd, Int.mul_assoc]
      exact Int.mul_le_mul_of_nonneg_left hle (by omega)
    omega
/-- on a list in order, the reference's longest match is the last one -/
theorem isLg_isLm {l : List (Int × Int)} (hl : lOk l) {x r : Int} (h : isLg l x 33 r) : isLm l x (if r < 0 then -1 else r) := by
  have hK : ∀ q ∈ l, pK q.1 := fun q hq => (hl.1 q hq).1
  rcases h with ⟨rfl, h1⟩ | ⟨p, q, rfl, h1, h2, h3⟩
  · refine Or.inl ⟨rfl, fun q hq => pInB_no (fun hin => h1 q hq ⟨by have := (hK q hq).2.1; omega, (pCt_iff (hK q hq)).mpr hin⟩)⟩
  · rw [if_neg (by omega)]
    have hq := List.mem_of_getElem? h1
    refine Or.inr ⟨p, q, rfl, h1, pInB_iff.mpr ((pCt_iff (hK q hq)).mp h2.2), fun j s hj hs => pInB_no (fun hin => ?_)⟩
    have hsm := List.mem_of_getElem? hs
    have hs2 := h3 j s hs ⟨by have := (hK s hsm).2.1; omega, (pCt_iff (hK s hsm)).mpr hin⟩
    have e1 := List.getElem?_eq_some_iff.mp h1
    have e2 := List.getElem?_eq_some_iff.mp hs
    have hlt := List.pairwise_iff_getElem.mp hl.2 p j e1.1 e2.1 hj
    rw [e1.2, e2.2] at hlt
    have := pIn_nest (hK q hq) (hK s hsm) ((pCt_iff (hK q hq)).mp h2.2) hin hlt
    omega
