/-! THE NODES OF THE COMPRESSOR -/
def cd (h : ftH) (j : Nat) : Nat := (32 - h 123 j % 64).toNat
def cv (h : ftH) (j : Nat) : Int := h 123 j / 64
def mk (nk : Nat → Nat) : Nat → Nat
  | 0 => 1
  | k + 1 => mk nk k + nk k
theorem mk_ext {f g : Nat → Nat} : ∀ k, (∀ j, j < k → f j = g j) → mk f k = mk g k
  | 0, _ => rfl
  | k + 1, h => by rw [mk, mk, mk_ext k (fun j hj => h j (by omega)), h k (by omega)]
theorem mk_mono {f : Nat → Nat} {j : Nat} : ∀ k, j ≤ k → mk f j ≤ mk f k
  | 0, h => by rw [show j = 0 by omega]; exact Nat.le_refl _
  | k + 1, h => by
    by_cases c : j = k + 1
    · rw [c]; exact Nat.le_refl _
    · have := mk_mono (f := f) k (show j ≤ k by omega)
      rw [mk]
      omega
theorem mk_pos (f : Nat → Nat) : ∀ k, 1 ≤ mk f k
  | 0 => Nat.le_refl 1
  | k + 1 => by have := mk_pos f k; rw [mk]; omega
/-- a node that waits -/
def cpI (h : ftH) (L : List (Int × Int)) (j : Nat) : Prop := ndOk (cd h j) (cv h j) ∧ h 123 j = 64 * cv h j + (32 - (cd h j : Int)) ∧ (∃ a b : Nat, h 124 j = (a : Int) ∧ h 125 j = (b : Int) ∧ rngI L (cd h j) (cv h j) a b) ∧ h 127 j = arF L (32 - cd h j) (cv h j) ∧ h 128 j = 0
/-- a node with its n children from c on -/
def ckI (h : ftH) (L : List (Int × Int)) (j c n : Nat) : Prop := (h 128 j = 0 ∧ n = 0 ∧ ¬ hR L (cd h j) (cv h j) = true) ∨ (h 128 j = 0 ∧ n = 1 ∧ hR L (cd h j) (cv h j) = true ∧ cd h c + 2 ≤ cd h j ∧ ndOk (cd h c) (cv h c) ∧ cv h j ≤ cv h c ∧ cv h c < cv h j + 2 ^ cd h j ∧ ∀ q ∈ L, rPr (cd h j) (cv h j) q = true → rIn (cd h c) (cv h c) q = true) ∨ (h 128 j = 1 ∧ n = 2 ∧ hR L (cd h j) (cv h j) = true ∧ cd h j = cd h c + 1 ∧ cd h (c + 1) = cd h c ∧ cv h c = cv h j ∧ cv h (c + 1) = cv h j + 2 ^ cd h c)
def cqI (h : ftH) (L : List (Int × Int)) (j c n : Nat) : Prop := ndOk (cd h j) (cv h j) ∧ h 123 j = 64 * cv h j + (32 - (cd h j : Int)) ∧ h 127 j = arF L (33 - cd h j) (cv h j) ∧ ckI h L j c n ∧ ∀ i, i < n → h 126 (c + i) = (j : Int)
noncomputable def cwH (h : ftH) (L : List (Int × Int)) (j : Nat) : Int := (cwt L (cd h j) (cv h j) (h 125 j - h 124 j).toNat : Int)
def coI (h : ftH) (L : List (Int × Int)) (nk : Nat → Nat) (k : Nat) : Prop :=
  h 122 10 = (mk nk k : Int) ∧ (k ≤ mk nk k ∧ ∀ j, j < k → j < mk nk j) ∧ (cd h 0 = 32 ∧ cv h 0 = 0 ∧ h 126 0 = -1) ∧ (∀ j, j < mk nk k → h 129 j = 65535 ∧ h 130 j = 0) ∧ (∀ j, j < k → cqI h L j (mk nk j) (nk j)) ∧ (∀ j, k ≤ j → j < mk nk k → cpI h L j) ∧ (k : Int) + sm (cwH h L) (mk nk k) - sm (cwH h L) k ≤ 357
theorem coI_small {h : ftH} {L : List (Int × Int)} {nk : Nat → Nat} {k : Nat} (hp : coI h L nk k) : mk nk k ≤ 357 := by
  obtain ⟨a1, a2, a3, a4, a5, a6, a7⟩ := hp
  have := sm_gap (f := cwH h L) (fun j => by have := (cwt_rng L (cd h j) (cv h j) (h 125 j - h 124 j).toNat).1; unfold cwH; omega) (k := k) _ a2.1
  omega
theorem cpI_fr {h h' : ftH} {L : List (Int × Int)} {j : Nat} (hp : cpI h L j) (f : ∀ c, 123 ≤ c → c < 131 → h' c j = h c j) : cpI h' L j := by
  have e1 : cd h' j = cd h j := by unfold cd; rw [f 123 (by omega) (by omega)]
  have e2 : cv h' j = cv h j := by unfold cv; rw [f 123 (by omega) (by omega)]
  unfold cpI
  rw [e1, e2, f 123 (by omega) (by omega), f 124 (by omega) (by omega), f 125 (by omega) (by omega), f 127 (by omega) (by omega), f 128 (by omega) (by omega)]
  exact hp
theorem cqI_fr {h h' : ftH} {L : List (Int × Int)} {j c n m : Nat} (hp : cqI h L j c n) (hj : j < m) (hc : c + n ≤ m) (f : ∀ i, i < m → h' 123 i = h 123 i) (f6 : ∀ i, i < m → h' 126 i = h 126 i) (f7 : h' 127 j = h 127 j) (f8 : h' 128 j = h 128 j) : cqI h' L j c n := by
  have e1 : ∀ i, i < m → cd h' i = cd h i := fun i hi => by unfold cd; rw [f i hi]
  have e2 : ∀ i, i < m → cv h' i = cv h i := fun i hi => by unfold cv; rw [f i hi]
  obtain ⟨p1, p2, p3, p4, p5⟩ := hp
  refine ⟨by rw [e1 j hj, e2 j hj]; exact p1, by rw [e1 j hj, e2 j hj, f j hj]; exact p2, by rw [e1 j hj, e2 j hj, f7]; exact p3, ?_, fun i hi => by rw [f6 _ (by omega)]; exact p5 i hi⟩
  unfold ckI
  rw [f8, e1 j hj, e2 j hj]
  rcases p4 with p | p | p
  · exact Or.inl p
  · have hn := p.2.1
    refine Or.inr (Or.inl ?_)
    rw [e1 c (by omega), e2 c (by omega)]
    exact p
  · have hn := p.2.1
    refine Or.inr (Or.inr ?_)
    rw [e1 c (by omega), e2 c (by omega), e1 (c + 1) (by omega), e2 (c + 1) (by omega)]
    exact p
def updN (f : Nat → Nat) (k n : Nat) : Nat → Nat := fun j => if j = k then n else f j
theorem co_step {h h' : ftH} {L : List (Int × Int)} {nk : Nat → Nat} {k n : Nat} (hp : coI h L nk k) (hk : k < mk nk k) (g0 : h' 122 10 = ((mk nk k + n : Nat) : Int)) (g1 : ∀ c j, 123 ≤ c → c < 131 → j < mk nk k → j ≠ k → h' c j = h c j) (g2 : ∀ c, 123 ≤ c → c < 131 → c ≠ 127 → c ≠ 128 → h' c k = h c k) (g7 : h' 127 k = arF L (33 - cd h k) (cv h k)) (gk : ckI h' L k (mk nk k) n) (gn : ∀ i, i < n → cpI h' L (mk nk k + i) ∧ h' 126 (mk nk k + i) = (k : Int) ∧ h' 129 (mk nk k + i) = 65535 ∧ h' 130 (mk nk k + i) = 0) (gw : 1 + sm (cwH h' L) (mk nk k + n) - sm (cwH h' L) (mk nk k) ≤ cwH h L k) : coI h' L (updN nk k n) (k + 1) := by
  obtain ⟨a1, a2, a3, a4, a5, a6, a7⟩ := hp
  have em : ∀ j, j ≤ k → mk (updN nk k n) j = mk nk j := fun j hj => mk_ext j (fun i hi => if_neg (by omega))
  have em1 : mk (updN nk k n) (k + 1) = mk nk k + n := by rw [mk, em k (Nat.le_refl k)]; unfold updN; rw [if_pos rfl]
  have f3 : ∀ c, 123 ≤ c → c < 131 → c ≠ 127 → c ≠ 128 → ∀ j, j < mk nk k → h' c j = h c j := fun c c1 c2 c3 c4 j hj => by
    by_cases e : j = k
    · rw [e]; exact g2 c c1 c2 c3 c4
    · exact g1 c j c1 c2 hj e
  have e1 : ∀ i, i < mk nk k → cd h' i = cd h i := fun i hi => by unfold cd; rw [f3 123 (by omega) (by omega) (by omega) (by omega) i hi]
  have e2 : ∀ i, i < mk nk k → cv h' i = cv h i := fun i hi => by unfold cv; rw [f3 123 (by omega) (by omega) (by omega) (by omega) i hi]
  have ew : ∀ i, i < mk nk k → cwH h' L i = cwH h L i := fun i hi => by
    unfold cwH
    rw [e1 i hi, e2 i hi, f3 124 (by omega) (by omega) (by omega) (by omega) i hi, f3 125 (by omega) (by omega) (by omega) (by omega) i hi]
  have hpos := mk_pos nk k
  have hck := a6 k (Nat.le_refl k) hk
  refine ⟨by rw [em1]; exact g0, ⟨by rw [em1]; omega, fun j hj => ?_⟩, ⟨by rw [e1 0 (by omega)]; exact a3.1, by rw [e2 0 (by omega)]; exact a3.2.1, by rw [f3 126 (by omega) (by omega) (by omega) (by omega) 0 (by omega)]; exact a3.2.2⟩, fun j hj => ?_, fun j hj => ?_, fun j j1 j2 => ?_, ?_⟩
  · rw [em j (by omega)]
    by_cases c : j = k
    · rw [c]; exact hk
    · exact a2.2 j (by omega)
  · rw [em1] at hj
    by_cases c : j < mk nk k
    · rw [f3 129 (by omega) (by omega) (by omega) (by omega) j c, f3 130 (by omega) (by omega) (by omega) (by omega) j c]
      exact a4 j c
    · obtain ⟨i, rfl⟩ : ∃ i, j = mk nk k + i := ⟨j - mk nk k, by omega⟩
      exact (gn i (by omega)).2.2
  · rw [em j (by omega)]
    by_cases c : j = k
    · subst c
      have eu : updN nk j n j = n := if_pos rfl
      rw [eu]
      refine ⟨by rw [e1 j hk, e2 j hk]; exact hck.1, by rw [e1 j hk, e2 j hk, g2 123 (by omega) (by omega) (by omega) (by omega)]; exact hck.2.1, by rw [e1 j hk, e2 j hk]; exact g7, gk, fun i hi => (gn i hi).2.1⟩
    · have eu : updN nk k n j = nk j := if_neg c
      rw [eu]
      have hcn : mk nk j + nk j ≤ mk nk k := by
        have := mk_mono (f := nk) (j := j + 1) k (by omega)
        rw [mk] at this
        exact this
      exact cqI_fr (a5 j (by omega)) (m := mk nk k) (by omega) hcn (fun i hi => f3 123 (by omega) (by omega) (by omega) (by omega) i hi) (fun i hi => f3 126 (by omega) (by omega) (by omega) (by omega) i hi) (g1 127 j (by omega) (by omega) (by omega) c) (g1 128 j (by omega) (by omega) (by omega) c)
  · rw [em1] at j2
    by_cases c : j < mk nk k
    · exact cpI_fr (a6 j (by omega) c) (fun c' c1 c2 => g1 c' j c1 c2 c (by omega))
    · obtain ⟨i, rfl⟩ : ∃ i, j = mk nk k + i := ⟨j - mk nk k, by omega⟩
      exact (gn i (by omega)).1
  · rw [em1, sm]
    have s1 : sm (cwH h' L) (mk nk k) = sm (cwH h L) (mk nk k) := sm_ext _ (fun j hj => ew j hj)
    have s2 : sm (cwH h' L) k = sm (cwH h L) k := sm_ext _ (fun j hj => ew j (by omega))
    rw [s2, ew k hk]
    push_cast
    omega
theorem c_Co_addNode {h : ftH} {m : Nat} (hm : h 122 10 = (m : Int)) (hl : m < 360) {key f t o a : Int} : ft_C k_Co_addNode [.inr (.inr 122), .inr (.inl key), .inl f, .inl t, .inl o, .inl a] h (fun r h' => r = none ∧ (∀ c, c < 122 ∨ 131 ≤ c → h' c = h c) ∧ h' 122 10 = ((m + 1 : Nat) : Int) ∧ (∀ c j, 123 ≤ c → c < 131 → j ≠ m → h' c j = h c j) ∧ h' 123 m = key ∧ h' 124 m = f ∧ h' 125 m = t ∧ h' 126 m = o ∧ h' 127 m = a ∧ h' 128 m = 0 ∧ h' 129 m = 65535 ∧ h' 130 m = 0) := by
  refine ft_enter (n := 0) rfl (Nat.le_of_ble_eq_true rfl) rfl (b_Co_addNode_0 ⟨fun c => ?_, fun c => absurd (by omega) c⟩)
  rw [hm, Int.toNat_natCast]
  refine ⟨⟨by omega, by omega⟩, fun h1 e1 => ?_⟩
  have q1 : h1 122 = h 122 := by rw [e1]; exact ft_hs_ne _ (by omega)
  rw [q1, hm, Int.toNat_natCast]
  refine ⟨⟨by omega, by omega⟩, fun h2 e2 => ?_⟩
  have q2 : h2 122 = h 122 := by rw [e2, ft_hs_ne _ (by omega), q1]
  rw [q2, hm, Int.toNat_natCast]
  refine ⟨⟨by omega, by omega⟩, fun h3 e3 => ?_⟩
  have q3 : h3 122 = h 122 := by rw [e3, ft_hs_ne _ (by omega), q2]
  rw [q3, hm, Int.toNat_natCast]
  refine ⟨⟨by omega, by omega⟩, fun h4 e4 => ?_⟩
  have q4 : h4 122 = h 122 := by rw [e4, ft_hs_ne _ (by omega), q3]
  rw [q4, hm, Int.toNat_natCast]
  refine ⟨⟨by omega, by omega⟩, fun h5 e5 => ?_⟩
  have q5 : h5 122 = h 122 := by rw [e5, ft_hs_ne _ (by omega), q4]
  rw [q5, hm, Int.toNat_natCast]
  refine ⟨⟨by omega, by omega⟩, fun h6 e6 => ?_⟩
  have q6 : h6 122 = h 122 := by rw [e6, ft_hs_ne _ (by omega), q5]
  rw [q6, hm, Int.toNat_natCast]
  refine ⟨⟨by omega, by omega⟩, fun h7 e7 => ?_⟩
  have q7 : h7 122 = h 122 := by rw [e7, ft_hs_ne _ (by omega), q6]
  rw [q7, hm, Int.toNat_natCast]
  refine ⟨⟨by omega, by omega⟩, fun h8 e8 h9 e9 => ?_⟩
  have q8 : h8 122 = h 122 := by rw [e8, ft_hs_ne _ (by omega), q7]
  rw [q8, hm, ft_add_eq ⟨by omega, by omega⟩] at e9
  have v9 : ∀ c, c ≠ 122 → h9 c = h8 c := fun c hc => by rw [e9]; exact ft_hs_ne c hc
  have v8 : ∀ c, c ≠ 130 → h8 c = h7 c := fun c hc => by rw [e8]; exact ft_hs_ne c hc
  have v7 : ∀ c, c ≠ 129 → h7 c = h6 c := fun c hc => by rw [e7]; exact ft_hs_ne c hc
  have v6 : ∀ c, c ≠ 128 → h6 c = h5 c := fun c hc => by rw [e6]; exact ft_hs_ne c hc
  have v5 : ∀ c, c ≠ 127 → h5 c = h4 c := fun c hc => by rw [e5]; exact ft_hs_ne c hc
  have v4 : ∀ c, c ≠ 126 → h4 c = h3 c := fun c hc => by rw [e4]; exact ft_hs_ne c hc
  have v3 : ∀ c, c ≠ 125 → h3 c = h2 c := fun c hc => by rw [e3]; exact ft_hs_ne c hc
  have v2 : ∀ c, c ≠ 124 → h2 c = h1 c := fun c hc => by rw [e2]; exact ft_hs_ne c hc
  have v1 : ∀ c, c ≠ 123 → h1 c = h c := fun c hc => by rw [e1]; exact ft_hs_ne c hc
  have w0 : h9 130 = h8 130 := v9 _ (by omega)
  have w9 : h9 129 = h7 129 := by rw [v9 _ (by omega), v8 _ (by omega)]
  have w8 : h9 128 = h6 128 := by rw [v9 _ (by omega), v8 _ (by omega), v7 _ (by omega)]
  have w7 : h9 127 = h5 127 := by rw [v9 _ (by omega), v8 _ (by omega), v7 _ (by omega), v6 _ (by omega)]
  have w6 : h9 126 = h4 126 := by rw [v9 _ (by omega), v8 _ (by omega), v7 _ (by omega), v6 _ (by omega), v5 _ (by omega)]
  have w5 : h9 125 = h3 125 := by rw [v9 _ (by omega), v8 _ (by omega), v7 _ (by omega), v6 _ (by omega), v5 _ (by omega), v4 _ (by omega)]
  have w4 : h9 124 = h2 124 := by rw [v9 _ (by omega), v8 _ (by omega), v7 _ (by omega), v6 _ (by omega), v5 _ (by omega), v4 _ (by omega), v3 _ (by omega)]
  have w3 : h9 123 = h1 123 := by rw [v9 _ (by omega), v8 _ (by omega), v7 _ (by omega), v6 _ (by omega), v5 _ (by omega), v4 _ (by omega), v3 _ (by omega), v2 _ (by omega)]
  refine ⟨rfl, fun c hc => by rw [v9 c (by omega), v8 c (by omega), v7 c (by omega), v6 c (by omega), v5 c (by omega), v4 c (by omega), v3 c (by omega), v2 c (by omega), v1 c (by omega)], by rw [e9, ft_hs_same]; push_cast; rfl, fun c j c1 c2 hj => ?_, by rw [w3, e1]; exact ft_hs_same, by rw [w4, e2]; exact ft_hs_same, by rw [w5, e3]; exact ft_hs_same, by rw [w6, e4]; exact ft_hs_same, by rw [w7, e5]; exact ft_hs_same, by rw [w8, e6]; exact ft_hs_same, by rw [w9, e7]; exact ft_hs_same, by rw [w0, e8]; exact ft_hs_same⟩
  have hc : c = 123 ∨ c = 124 ∨ c = 125 ∨ c = 126 ∨ c = 127 ∨ c = 128 ∨ c = 129 ∨ c = 130 := by omega
  rcases hc with e | e | e | e | e | e | e | e <;> subst e
  · rw [w3, e1, ft_hs_j hj]
  · rw [w4, e2, ft_hs_j hj, v1 _ (by omega)]
  · rw [w5, e3, ft_hs_j hj, v2 _ (by omega), v1 _ (by omega)]
  · rw [w6, e4, ft_hs_j hj, v3 _ (by omega), v2 _ (by omega), v1 _ (by omega)]
  · rw [w7, e5, ft_hs_j hj, v4 _ (by omega), v3 _ (by omega), v2 _ (by omega), v1 _ (by omega)]
  · rw [w8, e6, ft_hs_j hj, v5 _ (by omega), v4 _ (by omega), v3 _ (by omega), v2 _ (by omega), v1 _ (by omega)]
  · rw [w9, e7, ft_hs_j hj, v6 _ (by omega), v5 _ (by omega), v4 _ (by omega), v3 _ (by omega), v2 _ (by omega), v1 _ (by omega)]
  · rw [w0, e8, ft_hs_j hj, v7 _ (by omega), v6 _ (by omega), v5 _ (by omega), v4 _ (by omega), v3 _ (by omega), v2 _ (by omega), v1 _ (by omega)]
/-! the common length -/
theorem ft_xorL_nat {x y : Int} (hx : 0 ≤ x ∧ x < 4294967296) (hy : 0 ≤ y ∧ y < 4294967296) : ft_xorL x y = ((x.toNat ^^^ y.toNat : Nat) : Int) ∧ x.toNat ^^^ y.toNat < 2 ^ 32 := by
  have hlt : x.toNat ^^^ y.toNat < 2 ^ 32 := Nat.xor_lt_two_pow (by omega) (by omega)
  refine ⟨?_, hlt⟩
  show (Int64.ofInt x ^^^ Int64.ofInt y).toBitVec.toInt = _
  rw [Int64.toBitVec_xor, ft_bvL, ft_bvL]
  have e1 : (BitVec.ofInt 64 x).toNat = x.toNat := by rw [BitVec.toNat_ofInt]; congr 1; omega
  have e2 : (BitVec.ofInt 64 y).toNat = y.toNat := by rw [BitVec.toNat_ofInt]; congr 1; omega
  rw [BitVec.toInt_eq_toNat_of_lt (by rw [BitVec.toNat_xor, e1, e2]; omega), BitVec.toNat_xor, e1, e2]
theorem ft_diff {x y : Int} (hx : 0 ≤ x ∧ x < 4294967296) (hy : 0 ≤ y ∧ y < 4294967296) {e : Nat} (he : e < 32) : ft_ushrL (ft_xorL x y) (e : Int) = 0 ↔ x / 2 ^ e = y / 2 ^ e := by
  obtain ⟨h1, h2⟩ := ft_xorL_nat hx hy
  rw [h1, ft_ushrL_eq (by omega) ⟨by omega, by omega⟩ (by omega) (by omega), Int.toNat_natCast]
  have h3 := ft_xdiv x.toNat y.toNat e
  obtain ⟨a, rfl⟩ := Int.eq_ofNat_of_zero_le hx.1
  obtain ⟨b, rfl⟩ := Int.eq_ofNat_of_zero_le hy.1
  rw [Int.toNat_natCast, Int.toNat_natCast] at *
  have e1 : (((a ^^^ b : Nat) : Int) / 2 ^ e) = (((a ^^^ b) / 2 ^ e : Nat) : Int) := by push_cast; rfl
  have e2 : ((a : Int) / 2 ^ e) = ((a / 2 ^ e : Nat) : Int) := by push_cast; rfl
  have e3 : ((b : Int) / 2 ^ e) = ((b / 2 ^ e : Nat) : Int) := by push_cast; rfl
  rw [e1, e2, e3]
  constructor
  · intro q
    have := h3.mp (by exact_mod_cast q)
    rw [this]
  · intro q
    have := h3.mpr (by exact_mod_cast q)
    rw [this]
    rfl
theorem v_Co_common {dm : Nat} (hdm : dm ≤ 32) {f g : Int} (hf : pK f) (hg : pK g) {h : ftH} {R : Option ftV → ftH → Prop} (hk : ∀ dz : Nat, dz ≤ dm → (32 : Int) - dz ≤ f % 64 → f / 64 / 2 ^ dz = g / 64 / 2 ^ dz → ((32 : Int) - dz = f % 64 ∨ ∃ e, dz = e + 1 ∧ (32 : Int) - e ≤ f % 64 ∧ f / 64 / 2 ^ e ≠ g / 64 / 2 ^ e) → ft_in (32 - (dz : Int)) → R (some (.inl (32 - (dz : Int)))) h) :
    ∀ dz : Nat, dz ≤ dm → (32 : Int) - dz ≤ f % 64 → f / 64 / 2 ^ dz = g / 64 / 2 ^ dz → ft_V k_Co_commonLength 15 [some (.inr (.inl f)), none, none, none, none, some (.inr (.inl (ft_xorL (f / 64) (g / 64)))), none, some (.inl (32 - (dz : Int)))] [] h R := by
  intro dz
  induction dz with
  | zero =>
    intro h1 h2 h3
    have := hf.2.1
    refine b_Co_commonLength_15 ⟨hf.1.1, fun c => hk 0 (by omega) h2 h3 (Or.inl (by omega)) ⟨by omega, by omega⟩, fun c => absurd (by omega) c⟩
  | succ e ih =>
    intro h1 h2 h3
    have h4 := hf.1
    have h5 := hg.1
    refine b_Co_commonLength_15 ⟨hf.1.1, fun c => hk (e + 1) h1 h2 h3 (Or.inl (by omega)) ⟨by omega, by omega⟩, fun c => ?_⟩
    have es : ft_sub 31 (32 - ((e + 1 : Nat) : Int)) = (e : Int) := by rw [ft_sub_eq ⟨by push_cast; omega, by push_cast; omega⟩]; push_cast; omega
    have ea : ft_add (32 - ((e + 1 : Nat) : Int)) 1 = 32 - (e : Int) := by rw [ft_add_eq ⟨by push_cast; omega, by push_cast; omega⟩]; push_cast; omega
    rw [es, ea, ft_diff (by omega) (by omega) (by omega)]
    clear es ea
    push_cast at h2 c
    refine ⟨fun d => hk (e + 1) h1 (by push_cast; omega) h3 (Or.inr ⟨e, rfl, by omega, d⟩) ⟨by omega, by omega⟩, fun d => ih (by omega) (by omega) d⟩
theorem c_Co_common {f g : Int} (hf : pK f) (hg : pK g) {h : ftH} {dz : Nat} (h1 : dz ≤ 32) (h2 : (32 : Int) - dz ≤ f % 64) (h3 : f / 64 / 2 ^ dz = g / 64 / 2 ^ dz) : ft_C k_Co_commonLength [.inr (.inl f), .inr (.inl g), .inl (32 - (dz : Int))] h (fun r h' => h' = h ∧ ∃ d2 : Nat, r = some (.inl (32 - (d2 : Int))) ∧ d2 ≤ dz ∧ (32 : Int) - d2 ≤ f % 64 ∧ f / 64 / 2 ^ d2 = g / 64 / 2 ^ d2 ∧ ((32 : Int) - d2 = f % 64 ∨ ∃ e, d2 = e + 1 ∧ (32 : Int) - e ≤ f % 64 ∧ f / 64 / 2 ^ e ≠ g / 64 / 2 ^ e)) := by
  refine ft_enter (n := 3) rfl (Nat.le_of_ble_eq_true rfl) rfl (b_Co_commonLength_0 ⟨hf.1.1, hg.1.1, fun n5 e5 => ?_⟩)
  rw [e5]
  exact v_Co_common h1 hf hg (fun d2 a1 a2 a3 a4 _ => ⟨rfl, d2, rfl, a1, a2, a3, a4⟩) dz (Nat.le_refl dz) h2 h3
