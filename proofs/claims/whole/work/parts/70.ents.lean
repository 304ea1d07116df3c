/-! the reference's entries -/
def enL (h : ftH) (n : Nat) : List (Int × Int) := (List.range n).map fun i => (64 * pUn (h 318 i) + h 319 i, h 320 i)
theorem enL_len {h : ftH} {n : Nat} : (enL h n).length = n := by simp [enL]
theorem enL_get {h : ftH} {n i : Nat} (hi : i < n) : (enL h n)[i]? = some (64 * pUn (h 318 i) + h 319 i, h 320 i) := by simp [enL, List.getElem?_range hi]
def enI (h : ftH) (E : List (Int × Int)) : Prop := h 309 14 = (E.length : Int) ∧ enL h E.length = E ∧ ∀ i, i < E.length → 0 ≤ h 319 i ∧ h 319 i ≤ 32
theorem enI_at {h : ftH} {E : List (Int × Int)} (hE : enI h E) {i : Nat} (hi : i < E.length) : kAt E i = 64 * pUn (h 318 i) + h 319 i ∧ vAt E i = h 320 i ∧ kS E i = pUn (h 318 i) ∧ kN E i = h 319 i := by
  have h1 := enL_get (h := h) hi
  rw [hE.2.1] at h1
  have h2 := kAt_of h1
  have h3 := hE.2.2 i hi
  simp only at h2
  unfold kS kN
  rw [h2.1, h2.2]
  exact ⟨rfl, rfl, by omega, by omega⟩
theorem enI_fr {h h' : ftH} {E : List (Int × Int)} (hE : enI h E) (f0 : h' 309 14 = h 309 14) (f1 : h' 318 = h 318) (f2 : h' 319 = h 319) (f3 : h' 320 = h 320) : enI h' E := by
  unfold enI enL
  rw [f0, f1, f2, f3]
  exact hE
theorem v_Mo_addsEntry {h0 : ftH} {E : List (Int × Int)} (hE : enI h0 E) (hl : E.length < 64) {v l x : Int} (hl0 : 0 ≤ l ∧ l ≤ 32) (hne : ∀ q ∈ E, q.1 ≠ 64 * pUn v + l) (hs : E.Pairwise (fun a b => a.1 < b.1)) {R : Option ftV → ftH → Prop}
    (hk : ∀ (h : ftH) (k : Nat), k ≤ E.length → (∀ i, i < k → kAt E i < 64 * pUn v + l) → (∀ i, k ≤ i → i < E.length → 64 * pUn v + l < kAt E i) → enI h (E.take k ++ (64 * pUn v + l, x) :: E.drop k) → (∀ c, c ≠ 309 → (c < 318 ∨ 321 ≤ c) → h c = h0 c) → (∀ j, j ≠ 14 → h 309 j = h0 309 j) → R none h) :
    ∀ (k : Nat) (h : ftH), k ≤ E.length → (∀ c, (c < 318 ∨ 321 ≤ c) → h c = h0 c) → (∀ i, i < k → h 318 i = h0 318 i ∧ h 319 i = h0 319 i ∧ h 320 i = h0 320 i) → (∀ i, k < i → i ≤ E.length → h 318 i = h0 318 (i - 1) ∧ h 319 i = h0 319 (i - 1) ∧ h 320 i = h0 320 (i - 1)) → (∀ i, k ≤ i → i < E.length → 64 * pUn v + l < kAt E i) → ft_V k_Mo_addsEntry 6 [some (.inr (.inr 309)), some (.inl v), some (.inl l), some (.inl x), some (.inl (k : Int))] [] h R := by
  have fin : ∀ (k : Nat) (h h1 h2 h3 h4 : ftH), k ≤ E.length → (∀ c, (c < 318 ∨ 321 ≤ c) → h c = h0 c) → (∀ i, i < k → h 318 i = h0 318 i ∧ h 319 i = h0 319 i ∧ h 320 i = h0 320 i) → (∀ i, k < i → i ≤ E.length → h 318 i = h0 318 (i - 1) ∧ h 319 i = h0 319 (i - 1) ∧ h 320 i = h0 320 (i - 1)) → (∀ i, k ≤ i → i < E.length → 64 * pUn v + l < kAt E i) → (∀ i, i < k → kAt E i < 64 * pUn v + l) → h1 = ft_hs h 318 k v → h2 = ft_hs h1 319 k l → h3 = ft_hs h2 320 k x → h4 = ft_hs h3 309 14 (ft_add (h3 309 14) 1) → R none h4 := by
    intro k h h1 h2 h3 h4 hkn f1 f2 f3 f4 f5 e1 e2 e3 e4
    have q9 : h3 309 = h0 309 := by rw [e3, ft_hs_ne _ (by omega), e2, ft_hs_ne _ (by omega), e1, ft_hs_ne _ (by omega), f1 309 (by omega)]
    rw [q9, hE.1, ft_add_eq ⟨by omega, by omega⟩] at e4
    have q18 : h4 318 = h1 318 := by rw [e4, ft_hs_ne _ (by omega), e3, ft_hs_ne _ (by omega), e2, ft_hs_ne _ (by omega)]
    have q19 : h4 319 = h2 319 := by rw [e4, ft_hs_ne _ (by omega), e3, ft_hs_ne _ (by omega)]
    have q20 : h4 320 = h3 320 := by rw [e4, ft_hs_ne _ (by omega)]
    have at_ : ∀ i, (i = k → h4 318 i = v ∧ h4 319 i = l ∧ h4 320 i = x) ∧ (i ≠ k → h4 318 i = h 318 i ∧ h4 319 i = h 319 i ∧ h4 320 i = h 320 i) := fun i => by
      rw [q18, q19, q20]
      refine ⟨fun c => ?_, fun c => ?_⟩
      · subst c
        refine ⟨by rw [e1]; exact ft_hs_same, by rw [e2]; exact ft_hs_same, by rw [e3]; exact ft_hs_same⟩
      · refine ⟨by rw [e1, ft_hs_j c], by rw [e2, ft_hs_j c, e1, ft_hs_ne _ (by omega)], by rw [e3, ft_hs_j c, e2, ft_hs_ne _ (by omega), e1, ft_hs_ne _ (by omega)]⟩
    have hlen : (E.take k ++ (64 * pUn v + l, x) :: E.drop k).length = E.length + 1 := by
      rw [List.length_append, List.length_cons, List.length_take, List.length_drop]
      omega
    have hz : ∀ i, i < E.length + 1 → (i < k → h4 318 i = h0 318 i ∧ h4 319 i = h0 319 i ∧ h4 320 i = h0 320 i) ∧ (k < i → h4 318 i = h0 318 (i - 1) ∧ h4 319 i = h0 319 (i - 1) ∧ h4 320 i = h0 320 (i - 1)) := fun i hi => by
      refine ⟨fun c => ?_, fun c => ?_⟩
      · have a := (at_ i).2 (by omega)
        have b := f2 i c
        exact ⟨by rw [a.1, b.1], by rw [a.2.1, b.2.1], by rw [a.2.2, b.2.2]⟩
      · have a := (at_ i).2 (by omega)
        have b := f3 i c (by omega)
        exact ⟨by rw [a.1, b.1], by rw [a.2.1, b.2.1], by rw [a.2.2, b.2.2]⟩
    refine hk h4 k hkn f5 f4 ⟨?_, ?_, fun i hi => ?_⟩ (fun c c1 c2 => ?_) (fun j hj => ?_)
    · rw [hlen, e4, ft_hs_same]
      push_cast
      rfl
    · rw [hlen]
      apply List.ext_getElem?
      intro i
      by_cases c : i < E.length + 1
      · rw [enL_get c]
        rcases Nat.lt_trichotomy i k with q | q | q
        · have a := (hz i c).1 q
          rw [List.getElem?_append_left (by rw [List.length_take]; omega), List.getElem?_take_of_lt q, a.1, a.2.1, a.2.2, kAt_get (show i < E.length by omega)]
          have b := enI_at hE (show i < E.length by omega)
          rw [b.1, b.2.1]
        · have a := (at_ i).1 q
          rw [List.getElem?_append_right (by rw [List.length_take]; omega), List.length_take, show i - min k E.length = 0 by omega, a.1, a.2.1, a.2.2]
          rfl
        · have a := (hz i c).2 q
          rw [List.getElem?_append_right (by rw [List.length_take]; omega), List.length_take, show i - min k E.length = (i - 1 - k) + 1 by omega, List.getElem?_cons_succ, List.getElem?_drop, show k + (i - 1 - k) = i - 1 by omega, a.1, a.2.1, a.2.2, kAt_get (show i - 1 < E.length by omega)]
          have b := enI_at hE (show i - 1 < E.length by omega)
          rw [b.1, b.2.1]
      · rw [List.getElem?_eq_none (by rw [enL_len]; omega), List.getElem?_eq_none (by omega)]
    · rw [hlen] at hi
      rcases Nat.lt_trichotomy i k with q | q | q
      · rw [((hz i hi).1 q).2.1]
        exact hE.2.2 i (by omega)
      · rw [((at_ i).1 q).2.1]
        exact hl0
      · rw [((hz i hi).2 q).2.1]
        exact hE.2.2 (i - 1) (by omega)
    · rw [e4, ft_hs_ne c c1, e3, ft_hs_ne c (by omega), e2, ft_hs_ne c (by omega), e1, ft_hs_ne c (by omega), f1 c c2]
    · rw [e4, ft_hs_j hj, q9]
  intro k
  induction k with
  | zero =>
    intro h hkn f1 f2 f3 f4
    exact b_Mo_addsEntry_6 ⟨fun _ => ⟨⟨by omega, by omega⟩, fun h1 e1 => ⟨⟨by omega, by omega⟩, fun h2 e2 => ⟨⟨by omega, by omega⟩, fun h3 e3 h4 e4 => fin 0 h h1 h2 h3 h4 hkn f1 f2 f3 f4 (fun i hi => absurd hi (Nat.not_lt_zero i)) e1 e2 e3 e4⟩⟩⟩, fun c => absurd (by omega) c⟩
  | succ k ih =>
    intro h hkn f1 f2 f3 f4
    have hk1 : ft_sub ((k + 1 : Nat) : Int) 1 = (k : Int) := by rw [ft_sub_eq ⟨by omega, by omega⟩]; omega
    have hk2 : ft_add ((k + 1 : Nat) : Int) (-1) = (k : Int) := by rw [ft_add_eq ⟨by omega, by omega⟩]; omega
    have hkE : k < E.length := by omega
    have hb := enI_at hE hkE
    have hz := hE.2.2 k hkE
    have hf := f2 k (by omega)
    refine b_Mo_addsEntry_6 ⟨fun c => absurd c (by omega), fun _ => ?_⟩
    rw [hk1, hk2, Int.toNat_natCast, Int.toNat_natCast]
    clear hk1 hk2
    rw [hf.1, hf.2.1, ← hb.1]
    refine ⟨⟨by omega, by omega⟩, ⟨by omega, by omega⟩, ⟨hl0, hz⟩, fun c => ⟨⟨by omega, by omega⟩, fun h1 e1 => ⟨⟨by omega, by omega⟩, fun h2 e2 => ⟨⟨by omega, by omega⟩, fun h3 e3 h4 e4 => fin (k + 1) h h1 h2 h3 h4 hkn f1 f2 f3 f4 (fun i hi => ?_) e1 e2 e3 e4⟩⟩⟩, fun c => ⟨⟨by omega, by omega⟩, ⟨by omega, by omega⟩, fun h9 e9 => ⟨⟨by omega, by omega⟩, ⟨by omega, by omega⟩, fun h10 e10 => ⟨⟨by omega, by omega⟩, ⟨by omega, by omega⟩, fun h11 e11 => ?_⟩⟩⟩⟩
    · have h1 := hne _ (List.mem_of_getElem? (kAt_get hkE))
      simp only at h1
      have h2 : kAt E i ≤ kAt E k := by
        rcases Nat.lt_or_eq_of_le (show i ≤ k by omega) with q | q
        · have h3 := List.pairwise_iff_getElem.mp hs i k (by omega) hkE q
          have g1 := kAt_get (L := E) (i := i) (by omega)
          have g2 := kAt_get hkE
          rw [List.getElem?_eq_getElem (by omega)] at g1 g2
          rw [Option.some.inj g1, Option.some.inj g2] at h3
          exact Int.le_of_lt h3
        · rw [q]; exact Int.le_refl _
      omega
    · have r9 : ∀ c, c ≠ 318 → h9 c = h c := fun c hc => by rw [e9]; exact ft_hs_ne c hc
      have r10 : ∀ c, c ≠ 319 → h10 c = h9 c := fun c hc => by rw [e10]; exact ft_hs_ne c hc
      have r11 : ∀ c, c ≠ 320 → h11 c = h10 c := fun c hc => by rw [e11]; exact ft_hs_ne c hc
      rw [r9 319 (by omega)] at e10
      rw [r10 320 (by omega), r9 320 (by omega)] at e11
      have x8 : h11 318 = h9 318 := by rw [r11 _ (by omega), r10 _ (by omega)]
      have x9 : h11 319 = h10 319 := r11 _ (by omega)
      refine ih h11 (by omega) (fun c hc => by rw [r11 c (by omega), r10 c (by omega), r9 c (by omega), f1 c hc]) (fun i hi => ?_) (fun i i1 i2 => ?_) (fun i i1 i2 => ?_)
      · rw [x8, x9, e9, e10, e11, ft_hs_j (by omega), ft_hs_j (by omega), ft_hs_j (by omega), r9 319 (by omega), r10 320 (by omega), r9 320 (by omega)]
        exact f2 i (by omega)
      · rw [x8, x9]
        by_cases q : i = k + 1
        · subst q
          rw [e9, e10, e11, ft_hs_same, ft_hs_same, ft_hs_same, Nat.add_sub_cancel]
          exact ⟨rfl, hf.2.1, hf.2.2⟩
        · rw [e9, e10, e11, ft_hs_j q, ft_hs_j q, ft_hs_j q, r9 319 (by omega), r10 320 (by omega), r9 320 (by omega)]
          exact f3 i (by omega) i2
      · by_cases q : i = k
        · rw [q]; exact c
        · exact f4 i (by omega) i2
theorem c_Mo_addsEntry {h : ftH} {E : List (Int × Int)} (hE : enI h E) (hl : E.length < 64) {v l x : Int} (hl0 : 0 ≤ l ∧ l ≤ 32) (hne : ∀ q ∈ E, q.1 ≠ 64 * pUn v + l) (hs : E.Pairwise (fun a b => a.1 < b.1)) : ft_C k_Mo_addsEntry [.inr (.inr 309), .inl v, .inl l, .inl x] h (fun r h' => r = none ∧ (∀ c, c ≠ 309 → (c < 318 ∨ 321 ≤ c) → h' c = h c) ∧ (∀ j, j ≠ 14 → h' 309 j = h 309 j) ∧ ∃ E', enI h' E' ∧ E'.Perm ((64 * pUn v + l, x) :: E) ∧ E'.Pairwise (fun a b => a.1 < b.1)) := by
  refine ft_enter (n := 1) rfl (Nat.le_of_ble_eq_true rfl) rfl (b_Mo_addsEntry_0 (fun n1 e1 => ?_))
  rw [e1, hE.1]
  refine v_Mo_addsEntry hE hl hl0 hne hs (fun g k k1 k2 k3 k4 k5 k6 => ⟨rfl, k5, k6, _, k4, ?_, ?_⟩) E.length h (Nat.le_refl _) (fun c _ => rfl) (fun i _ => ⟨rfl, rfl, rfl⟩) (fun i i1 i2 => absurd i2 (by omega)) (fun i i1 i2 => absurd i2 (by omega))
  · have := List.perm_middle (a := (64 * pUn v + l, x)) (l₁ := E.take k) (l₂ := E.drop k)
    rw [List.take_append_drop] at this
    exact this
  · rw [List.pairwise_append]
    have ht : ∀ a ∈ E.take k, a.1 < 64 * pUn v + l := fun a ha => by
      obtain ⟨i, hi⟩ := List.getElem?_of_mem ha
      have hlt := (List.getElem?_eq_some_iff.mp hi).1
      rw [List.length_take] at hlt
      rw [List.getElem?_take_of_lt (by omega)] at hi
      have := k2 i (by omega)
      rw [(kAt_of hi).1] at this
      exact this
    have hd : ∀ b ∈ E.drop k, 64 * pUn v + l < b.1 := fun b hb => by
      obtain ⟨i, hi⟩ := List.getElem?_of_mem hb
      rw [List.getElem?_drop] at hi
      have hlt := (List.getElem?_eq_some_iff.mp hi).1
      have := k3 (k + i) (by omega) hlt
      rw [(kAt_of hi).1] at this
      exact this
    refine ⟨hs.sublist (List.take_sublist k E), List.pairwise_cons.mpr ⟨hd, hs.sublist (List.drop_sublist k E)⟩, fun a ha b hb => ?_⟩
    rcases List.mem_cons.mp hb with q | q
    · rw [q]; exact ht a ha
    · have h1 := ht a ha
      have h2 := hd b q
      omega
theorem v_Mo_least {s : Nat} (hs : s < 65536) {k : Nat} (hk : s.testBit k = true) (hk2 : ∀ j, j < k → s.testBit j = false) {h : ftH} {R : Option ftV → ftH → Prop} (hR : R (some (.inl (k : Int))) h) : ∀ m i : Nat, i + m = k → ft_V k_Mo_least 2 [some (.inl (s : Int)), some (.inl (i : Int))] [] h R := by
  have h16 := bit16 hs hk
  intro m
  induction m with
  | zero =>
    intro i hi
    have e : i = k := by omega
    subst e
    exact b_Mo_least_2 ⟨fun _ => hR, fun c => absurd hk ((ft_bit1 hs (by omega)).mp c)⟩
  | succ m ih =>
    intro i hi
    refine b_Mo_least_2 ⟨fun c => absurd ((ft_bit1 hs (by omega)).mpr (by rw [hk2 i (by omega)]; decide)) c, fun _ => ?_⟩
    rw [ft_add_eq ⟨by omega, by omega⟩]
    exact ih (i + 1) (by omega)
theorem c_Mo_least {s : Nat} (hs : s < 65536) (h0 : s ≠ 0) {h : ftH} : ft_C k_Mo_least [.inl (s : Int)] h (fun r h' => r = some (.inl (lo s : Int)) ∧ h' = h) := by
  obtain ⟨k, hk⟩ := ne_bit h0
  have := lo_spec hk
  exact ft_enter (n := 1) rfl (Nat.le_of_ble_eq_true rfl) rfl (b_Mo_least_0 (v_Mo_least hs this.1 this.2 ⟨rfl, rfl⟩ (lo s) 0 (by omega)))
/-- what the parts that wait will still give -/
noncomputable def pend (h : ftH) (L : List (Int × Int)) (k n : Nat) : List (Int × Int) := (List.range' k n).flatMap fun j => tE L (fl h j) (vv h j) (h 317 j).toNat
theorem pend_ext {h h' : ftH} {L : List (Int × Int)} {k n : Nat} (f : ∀ j, k ≤ j → j < k + n → fl h' j = fl h j ∧ vv h' j = vv h j ∧ h' 317 j = h 317 j) : pend h' L k n = pend h L k n := by
  unfold pend
  rw [List.flatMap_def, List.flatMap_def]
  congr 1
  apply List.map_congr_left
  intro j hj
  rw [List.mem_range'_1] at hj
  have := f j hj.1 hj.2
  rw [this.1, this.2.1, this.2.2]
theorem v_Mo_laysEnts {L : List (Int × Int)} (hL : lOk L) (h15 : hop15 L) (h60 : L.length ≤ 60) {h0 : ftH} {K : Nat} (hp : pfI h0 L K) {R : Option ftV → ftH → Prop} (hk : ∀ h : ftH, enI h (ortc L) → (∀ c, c ≠ 309 → (c < 317 ∨ 321 ≤ c) → h c = h0 c) → (∀ j, j ≠ 14 → h 309 j = h0 309 j) → R none h) :
    ∀ (m k : Nat) (h : ftH) (E : List (Int × Int)), k + m = K → (∀ c, c ≠ 309 → (c < 317 ∨ 321 ≤ c) → h c = h0 c) → (∀ j, j ≠ 14 → h 309 j = h0 309 j) → enI h E → E.Pairwise (fun a b => a.1 < b.1) → (∀ j, k ≤ j → j < mm (h0 315) k → 0 ≤ h 317 j ∧ h 317 j < 16) → k ≤ mm (h0 315) k → (E ++ pend h L k (mm (h0 315) k - k)).Perm (ortc L) → ft_V k_Mo_laysEntries 18 [some (.inr (.inr 309)), some (.inl (k : Int))] [] h R := by
  obtain ⟨p1, p2, p3, p4, p5, p6⟩ := hp
  have ho := ortc_ok hL h15
  intro m
  induction m with
  | zero =>
    intro k h E hm f1 f2 hE hs h17 hmm hperm
    have ek : k = K := by omega
    subst ek
    refine b_Mo_laysEntries_18 ⟨fun _ => ?_, fun c => absurd (by rw [f2 10 (by omega), p1]; omega) c⟩
    rw [p2.1, Nat.sub_self] at hperm
    have hperm : E.Perm (ortc L) := by
      have e0 : pend h L k 0 = [] := rfl
      rw [e0, List.append_nil] at hperm
      exact hperm
    have : E = ortc L := sorted_ext (r := fun a b : Int × Int => a.1 < b.1) (fun a b h1 h2 => by omega) hs ho.1.2 (fun x => hperm.mem_iff)
    rw [← this] at hk
    exact hk h hE f1 f2
  | succ m ih =>
    intro k h E hm f1 f2 hE hs h17 hmm hperm
    have hkK : k < K := by omega
    have hkm : k < mm (h0 315) k := p2.2 k hkK
    obtain ⟨n1, n2, n3, n4⟩ := p6 k hkK
    have g1 : ∀ (g : ftH), (∀ c, c ≠ 309 → (c < 317 ∨ 321 ≤ c) → g c = h0 c) → ∀ j, fl g j = fl h0 j ∧ vv g j = vv h0 j := fun g hg j => by
      unfold fl vv
      rw [hg 314 (by omega) (by omega), hg 313 (by omega) (by omega)]
      exact ⟨rfl, rfl⟩
    have hmK : mm (h0 315) k ≤ K := by
      have := mm_mono (f := h0 315) (j := k) K (by omega)
      rw [p2.1] at this
      exact this
    have hsok := tS_ok h15 (fl h0 k) (vv h0 k)
    have h17k := h17 k (Nat.le_refl k) hkm
    have epend : pend h L k (mm (h0 315) k - k) = tE L (fl h0 k) (vv h0 k) (h 317 k).toNat ++ pend h L (k + 1) (mm (h0 315) k - (k + 1)) := by
      unfold pend
      rw [show mm (h0 315) k - k = (mm (h0 315) k - (k + 1)) + 1 by omega, List.range'_succ, List.flatMap_cons, (g1 h f1 k).1, (g1 h f1 k).2]
    have ha1 : ft_add (k : Int) 1 = ((k + 1 : Nat) : Int) := by rw [ft_add_eq ⟨by omega, by omega⟩]; push_cast; rfl
    have e16 : h 316 k = (tS L (fl h0 k) (vv h0 k) : Int) := by rw [f1 316 (by omega) (by omega)]; exact n3
    have e17 : h 317 k = (((h 317 k).toNat : Nat) : Int) := by omega
    have hb := ft_bit1 hsok.2 (show (h 317 k).toNat < 16 by omega)
    have tl : ∀ (g : ftH) (E' : List (Int × Int)) (hh : Nat), (∀ c, c ≠ 309 → (c < 317 ∨ 321 ≤ c) → g c = h0 c) → (∀ j, j ≠ 14 → g 309 j = h0 309 j) → enI g E' → E'.Pairwise (fun a b => a.1 < b.1) → (∀ j, k < j → j < mm (h0 315) k → g 317 j = h 317 j) → g 317 k = (hh : Int) → hh < 16 → hh = eH (tS L (fl h0 k) (vv h0 k)) (h 317 k).toNat → (E' ++ (tRest L (fl h0 k) (vv h0 k) hh ++ pend h L (k + 1) (mm (h0 315) k - (k + 1)))).Perm (ortc L) →
        (¬ (h0 315 k = 0) → ((0 ≤ (k : Int) ∧ (k : Int) < 3900) ∧ ((0 ≤ (k : Int) ∧ (k : Int) < 3900) ∧ ((0 ≤ h0 315 k ∧ h0 315 k < 3900) ∧ (∀ h1 : ftH, h1 = ft_hs g 317 (h0 315 k).toNat (g 317 k) → ((0 ≤ (k : Int) ∧ (k : Int) < 3900) ∧ ((0 ≤ (k : Int) ∧ (k : Int) < 3900) ∧ ((0 ≤ ft_add (h1 315 k) 1 ∧ ft_add (h1 315 k) 1 < 3900) ∧ (∀ h2 : ftH, h2 = ft_hs h1 317 (ft_add (h1 315 k) 1).toNat (h1 317 k) → ft_V k_Mo_laysEntries 18 [some (.inr (.inr 309)), some (.inl ((k + 1 : Nat) : Int))] [] h2 R))))))))) ∧ (h0 315 k = 0 → ft_V k_Mo_laysEntries 18 [some (.inr (.inr 309)), some (.inl ((k + 1 : Nat) : Int))] [] g R) := by
      intro g E' hh q1 q2 q3 q4 q5 q6 q7 q8 q9
      rcases n4 with ⟨b1, b2⟩ | ⟨b1, b2, b3, b4⟩
      · refine ⟨fun c => absurd b1 c, fun _ => ?_⟩
        have em : mm (h0 315) (k + 1) = mm (h0 315) k := by rw [mm, if_pos b1]
        have er : tRest L (fl h0 k) (vv h0 k) hh = [] := by
          generalize fl h0 k = d at b2
          cases d with
          | zero => rfl
          | succ d => rw [tRest, if_neg b2]
        refine ih (k + 1) g E' (by omega) q1 q2 q3 q4 (fun j j1 j2 => ?_) (by rw [em]; omega) ?_
        · rw [em] at j2
          rw [q5 j (by omega) j2]
          exact h17 j (by omega) j2
        · rw [em, pend_ext (h := h) (fun j j1 j2 => ?_)]
          · rw [er, List.nil_append] at q9
            exact q9
          · rw [(g1 g q1 j).1, (g1 g q1 j).2, (g1 h f1 j).1, (g1 h f1 j).2, q5 j (by omega) (by omega)]
            exact ⟨rfl, rfl, rfl⟩
      · have hpos := mm_pos (h0 315) k
        have em : mm (h0 315) (k + 1) = mm (h0 315) k + 2 := by rw [mm, if_neg (by rw [b1]; omega)]
        refine ⟨fun _ => ?_, fun c => absurd c (by rw [b1]; omega)⟩
        rw [b1, Int.toNat_natCast]
        refine ⟨⟨by omega, by omega⟩, ⟨by omega, by omega⟩, ⟨by omega, by omega⟩, fun h1 e1 => ?_⟩
        have r1 : ∀ c, c ≠ 317 → h1 c = g c := fun c hc => by rw [e1]; exact ft_hs_ne c hc
        rw [r1 315 (by omega), q1 315 (by omega) (by omega), b1, show ft_add ((mm (h0 315) k : Nat) : Int) 1 = ((mm (h0 315) k + 1 : Nat) : Int) by rw [ft_add_eq ⟨by omega, by omega⟩]; push_cast; rfl, Int.toNat_natCast]
        refine ⟨⟨by omega, by omega⟩, ⟨by omega, by omega⟩, ⟨by omega, by omega⟩, fun h2 e2 => ?_⟩
        have r1k : h1 317 k = (hh : Int) := by rw [e1, ft_hs_j (by omega), q6]
        rw [r1k] at e2
        rw [q6] at e1
        have r2 : ∀ c, c ≠ 317 → h2 c = g c := fun c hc => by rw [e2, ft_hs_ne c hc, r1 c hc]
        have x1 : h2 317 (mm (h0 315) k) = (hh : Int) := by rw [e2, ft_hs_j (by omega), e1, ft_hs_same]
        have x2 : h2 317 (mm (h0 315) k + 1) = (hh : Int) := by rw [e2, ft_hs_same]
        have x3 : ∀ j, j ≠ mm (h0 315) k → j ≠ mm (h0 315) k + 1 → h2 317 j = g 317 j := fun j j1 j2 => by rw [e2, ft_hs_j j2, e1, ft_hs_j j1]
        have q1' : ∀ c, c ≠ 309 → (c < 317 ∨ 321 ≤ c) → h2 c = h0 c := fun c c1 c2 => by rw [r2 c (by omega), q1 c c1 c2]
        obtain ⟨d1, d2, d3, d4, d5⟩ := b4
        refine ih (k + 1) h2 E' (by omega) q1' (fun j hj => by rw [r2 309 (by omega), q2 j hj]) (enI_fr q3 (by rw [r2 309 (by omega)]) (r2 318 (by omega)) (r2 319 (by omega)) (r2 320 (by omega))) q4 (fun j j1 j2 => ?_) (by rw [em]; omega) ?_
        · rw [em] at j2
          by_cases a1 : j = mm (h0 315) k
          · rw [a1, x1]; omega
          · by_cases a2 : j = mm (h0 315) k + 1
            · rw [a2, x2]; omega
            · rw [x3 j a1 a2, q5 j (by omega) (by omega)]
              exact h17 j (by omega) (by omega)
        · have e3 : pend h2 L (k + 1) (mm (h0 315) (k + 1) - (k + 1)) = pend h L (k + 1) (mm (h0 315) k - (k + 1)) ++ (tE L (fl h0 (mm (h0 315) k)) (vv h0 k) hh ++ tE L (fl h0 (mm (h0 315) k)) (vv h0 k + 2 ^ fl h0 (mm (h0 315) k)) hh) := by
            have e4 : List.range' (k + 1) (mm (h0 315) (k + 1) - (k + 1)) = List.range' (k + 1) (mm (h0 315) k - (k + 1)) ++ [mm (h0 315) k, mm (h0 315) k + 1] := by
              rw [em, show mm (h0 315) k + 2 - (k + 1) = (mm (h0 315) k - (k + 1)) + 2 by omega, ← List.range'_append_1, show k + 1 + (mm (h0 315) k - (k + 1)) = mm (h0 315) k by omega]
              rfl
            have e5 := pend_ext (h := h) (h' := h2) (L := L) (k := k + 1) (n := mm (h0 315) k - (k + 1)) (fun j j1 j2 => by
              rw [(g1 h2 q1' j).1, (g1 h2 q1' j).2, (g1 h f1 j).1, (g1 h f1 j).2, x3 j (by omega) (by omega), q5 j (by omega) (by omega)]
              exact ⟨rfl, rfl, rfl⟩)
            rw [← e5]
            unfold pend
            rw [e4, List.flatMap_append]
            congr 1
            rw [List.flatMap_cons, List.flatMap_cons, List.flatMap_nil, List.append_nil, (g1 h2 q1' _).1, (g1 h2 q1' _).2, (g1 h2 q1' _).1, (g1 h2 q1' _).2, x1, x2, Int.toNat_natCast, d3, d4, d5]
          have e6 : tRest L (fl h0 k) (vv h0 k) hh = tE L (fl h0 (mm (h0 315) k)) (vv h0 k) hh ++ tE L (fl h0 (mm (h0 315) k)) (vv h0 k + 2 ^ fl h0 (mm (h0 315) k)) hh := by
            rw [d2] at b2 ⊢
            rw [tRest, if_pos b2]
          rw [e3, ← e6]
          exact (List.Perm.append_left E' List.perm_append_comm).trans q9
    refine b_Mo_laysEntries_18 ⟨fun c => absurd c (by rw [f2 10 (by omega), p1]; omega), fun _ => ?_⟩
    rw [ha1, Int.toNat_natCast]
    clear ha1
    rw [epend, tE_eq] at hperm
    refine ⟨⟨by omega, by omega⟩, ⟨by omega, by omega⟩, fun c => ⟨⟨by omega, by omega⟩, ?_⟩, fun c => ⟨⟨by omega, by omega⟩, ?_⟩⟩
    · rw [e16, e17] at c
      have hbit : (tS L (fl h0 k) (vv h0 k)).testBit (h 317 k).toNat = true := by
        by_cases q : (tS L (fl h0 k) (vv h0 k)).testBit (h 317 k).toNat = true
        · exact q
        · exact absurd (hb.mpr q) c
      have ee : eH (tS L (fl h0 k) (vv h0 k)) (h 317 k).toNat = (h 317 k).toNat := if_pos hbit
      have el : eL (64 * vv h0 k + (32 - (fl h0 k : Int))) (tS L (fl h0 k) (vv h0 k)) (h 317 k).toNat = [] := if_pos hbit
      rw [ee, el, List.nil_append] at hperm
      have := tl h E (h 317 k).toNat f1 f2 hE hs (fun j _ _ => rfl) e17 (by omega) ee.symm hperm
      rw [f1 315 (by omega) (by omega)]
      exact this
    · rw [e16, e17] at c
      have hbit := hb.mp c
      have ee : eH (tS L (fl h0 k) (vv h0 k)) (h 317 k).toNat = lo (tS L (fl h0 k) (vv h0 k)) := if_neg hbit
      have el : eL (64 * vv h0 k + (32 - (fl h0 k : Int))) (tS L (fl h0 k) (vv h0 k)) (h 317 k).toNat = [(64 * vv h0 k + (32 - (fl h0 k : Int)), (lo (tS L (fl h0 k) (vv h0 k)) : Int))] := if_neg hbit
      rw [ee, el, List.append_assoc] at hperm
      have hlo := tS_lo h15 (fl h0 k) (vv h0 k)
      rw [e16]
      refine ⟨_, c_Mo_least hsok.2 hsok.1, fun z3 g hz3 hw => ⟨⟨by omega, by omega⟩, fun h4 e4 => ?_⟩⟩
      obtain ⟨hz, rfl⟩ := hw
      have hz := injI hz
      rw [hz] at e4
      have r4 : ∀ c, c ≠ 317 → h4 c = g c := fun c hc => by rw [e4]; exact ft_hs_ne c hc
      have k13 : h4 313 k = h0 313 k := by rw [r4 313 (by omega), f1 313 (by omega) (by omega)]
      have k14 : h4 314 k = 32 - (fl h0 k : Int) := by
        rw [r4 314 (by omega), f1 314 (by omega) (by omega)]
        unfold fl
        omega
      have k17 : h4 317 k = (lo (tS L (fl h0 k) (vv h0 k)) : Int) := by rw [e4]; exact ft_hs_same
      rw [k13, k14, k17]
      have kv : pUn (h0 313 k) = vv h0 k := rfl
      have hlen := hperm.length_eq
      rw [List.length_append, List.length_append, List.length_singleton] at hlen
      have hfl := n2.1
      refine ⟨⟨by omega, by omega⟩, ⟨by omega, by omega⟩, ⟨by omega, by omega⟩, _, c_Mo_addsEntry (enI_fr hE (by rw [r4 309 (by omega)]) (r4 318 (by omega)) (r4 319 (by omega)) (r4 320 (by omega))) (by omega) (by omega) (fun q hq => ?_) hs, fun h5 hw => ?_⟩
      · rw [kv]
        intro heq
        have hnd : ((E ++ ([(64 * vv h0 k + (32 - (fl h0 k : Int)), (lo (tS L (fl h0 k) (vv h0 k)) : Int))] ++ (tRest L (fl h0 k) (vv h0 k) (lo (tS L (fl h0 k) (vv h0 k))) ++ pend g L (k + 1) (mm (h0 315) k - (k + 1))))).map (fun a => a.1)).Nodup := by
          refine (hperm.map (fun a => a.1)).nodup_iff.mpr ?_
          rw [List.Nodup, List.pairwise_map]
          exact ho.1.2.imp (fun q => by omega)
        rw [List.map_append, List.nodup_append] at hnd
        exact hnd.2.2 q.1 (List.mem_map_of_mem hq) (64 * vv h0 k + (32 - (fl h0 k : Int))) (by simp) heq
      · obtain ⟨-, u1, u2, E', u3, u4, u5⟩ := hw
        rw [kv] at u4
        have r5 : ∀ c, c ≠ 309 → (c < 317 ∨ 321 ≤ c) → h5 c = h0 c := fun c c1 c2 => by rw [u1 c c1 (by omega), r4 c (by omega), f1 c c1 c2]
        have := tl h5 E' (lo (tS L (fl h0 k) (vv h0 k))) r5 (fun j hj => by rw [u2 j hj, r4 309 (by omega), f2 j hj]) u3 u5 (fun j j1 j2 => by rw [u1 317 (by omega) (by omega), e4, ft_hs_j (by omega)]) (by rw [u1 317 (by omega) (by omega), k17]) hlo.2 ee.symm ((List.Perm.append_right _ u4).trans ((show ((64 * vv h0 k + (32 - (fl h0 k : Int)), (lo (tS L (fl h0 k) (vv h0 k)) : Int)) :: E ++ (tRest L (fl h0 k) (vv h0 k) (lo (tS L (fl h0 k) (vv h0 k))) ++ pend g L (k + 1) (mm (h0 315) k - (k + 1)))).Perm _ from (List.perm_middle (a := (64 * vv h0 k + (32 - (fl h0 k : Int)), (lo (tS L (fl h0 k) (vv h0 k)) : Int))) (l₁ := E) (l₂ := tRest L (fl h0 k) (vv h0 k) (lo (tS L (fl h0 k) (vv h0 k))) ++ pend g L (k + 1) (mm (h0 315) k - (k + 1)))).symm).trans hperm))
        refine ⟨⟨by omega, by omega⟩, ?_⟩
        rw [r5 315 (by omega) (by omega)]
        exact this
theorem d_Mo_laysEntries {h : ftH} {S : ftS} {P : List ftS} (hI : mcI h S P) {B : Int} (hok : sOk B S) : ft_C k_Mo_laysEntries [.inr (.inr 309)] h (fun r h' => r = none ∧ (∀ c, c ≠ 309 → (c < 313 ∨ 321 ≤ c) → h' c = h c) ∧ (∀ j, j ≠ 10 → j ≠ 14 → h' 309 j = h 309 j) ∧ enI h' (ortc S.2.1)) := by
  have hL := hok.2.1.1
  have h15 : hop15 S.2.1 := fun q hq => ⟨(hL.1 q hq).2.1, hok.2.1.2.1 q hq⟩
  refine ft_enter (n := 1) rfl (Nat.le_of_ble_eq_true rfl) rfl (b_Mo_laysEntries_0 ⟨_, d_Mo_laysParts hI hok, fun h1 hw h2 e2 h3 e3 => ?_⟩)
  obtain ⟨-, u1, u2, K, hp⟩ := hw
  have f1 : ∀ c, c ≠ 309 → (c < 317 ∨ 321 ≤ c) → h3 c = h1 c := fun c c1 c2 => by rw [e3, ft_hs_ne c (by omega), e2, ft_hs_ne c c1]
  have f2 : ∀ j, j ≠ 14 → h3 309 j = h1 309 j := fun j hj => by rw [e3, ft_hs_ne 309 (by omega), e2, ft_hs_j hj]
  have f14 : h3 309 14 = 0 := by rw [e3, ft_hs_ne 309 (by omega), e2, ft_hs_same]
  have f17 : h3 317 0 = 0 := by rw [e3, ft_hs_same]
  refine v_Mo_laysEnts hL h15 hok.2.1.2.2 hp (fun g k1 k2 k3 => ⟨rfl, fun c c1 c2 => by rw [k2 c c1 (by omega), u1 c c1 (by omega)], fun j j1 j2 => by rw [k3 j j2, u2 j j1], k1⟩) K 0 h3 [] (by omega) f1 f2 ⟨f14, rfl, fun i hi => absurd hi (Nat.not_lt_zero i)⟩ List.Pairwise.nil (fun j j1 j2 => ?_) (Nat.zero_le _) ?_
  · have : j = 0 := by rw [mm] at j2; omega
    rw [this, f17]
    omega
  · have e1 : fl h3 0 = 32 := by unfold fl; rw [f1 314 (by omega) (by omega)]; exact hp.2.2.2.1
    have e2 : vv h3 0 = 0 := by unfold vv; rw [f1 313 (by omega) (by omega)]; exact hp.2.2.2.2.1
    have e3 : pend h3 S.2.1 0 (mm (h1 315) 0 - 0) = ortc S.2.1 := by
      show (List.range' 0 1).flatMap (fun j => tE S.2.1 (fl h3 j) (vv h3 j) (h3 317 j).toNat) = ortc S.2.1
      rw [List.range'_one, List.flatMap_cons, List.flatMap_nil, List.append_nil, e1, e2, f17]
      rfl
    rw [e3, List.nil_append]
