/-- a node's set and its children's, as the tree has them -/
def csF (h : ftH) (L : List (Int × Int)) (nk : Nat → Nat) (K : Nat) : Prop := h 122 10 = (K : Int) ∧ (mk nk K = K ∧ ∀ j, j < K → j < mk nk j) ∧ K ≤ 357 ∧ (cd h 0 = 32 ∧ cv h 0 = 0 ∧ h 126 0 = -1) ∧ ∀ j, j < K → (ndOk (cd h j) (cv h j) ∧ h 123 j = 64 * cv h j + (32 - (cd h j : Int))) ∧ (0 ≤ h 127 j ∧ h 127 j ≤ 15) ∧ mk nk j + nk j ≤ K ∧ (∀ i, i < nk j → h 126 (mk nk j + i) = (j : Int)) ∧ ((h 128 j = 0 ∧ tS L (cd h j) (cv h j) = 2 ^ (h 127 j).toNat) ∨ (h 128 j = 1 ∧ nk j = 2 ∧ tS L (cd h j) (cv h j) = comb (tS L (cd h (mk nk j)) (cv h (mk nk j))) (tS L (cd h (mk nk j + 1)) (cv h (mk nk j + 1))))) ∧ ∀ x, tRest L (cd h j) (cv h j) (eH (tS L (cd h j) (cv h j)) x) = (List.range' (mk nk j) (nk j)).flatMap (fun c => tE L (cd h c) (cv h c) (eH (tS L (cd h j) (cv h j)) x))
theorem lo_pow (a : Nat) : lo (2 ^ a) = a := lo_uniq ((pow_bit a a).mpr rfl) (fun j hj => by
  have : ¬ (2 ^ a).testBit j = true := fun q => by have := (pow_bit a j).mp q; omega
  simpa using this)
theorem eH_pow (a x : Nat) : eH (2 ^ a) x = a := by
  unfold eH
  split
  · next q => exact (pow_bit a x).mp q
  · exact lo_pow a
theorem arF15 {L : List (Int × Int)} (h : hop15 L) (b v : Int) : 0 ≤ arF L b v ∧ arF L b v ≤ 15 := by
  unfold arF
  split
  · next q hq => exact h q (List.mem_reverse.mp (List.mem_of_find?_eq_some hq))
  · omega
theorem csF_of {h : ftH} {L : List (Int × Int)} (hL : lOk L) (h15 : hop15 L) {nk : Nat → Nat} {K : Nat} (hco : coI h L nk K) (eK : mk nk K = K) : csF h L nk K := by
  have hsm := coI_small hco
  obtain ⟨a1, a2, a3, a4, a5, a6, a7⟩ := hco
  refine ⟨by rw [a1, eK], ⟨eK, a2.2⟩, by omega, a3, fun j hj => ?_⟩
  obtain ⟨b1, b2, b3, b4, b5⟩ := a5 j hj
  have hcn : mk nk j + nk j ≤ K := by
    have := mk_mono (f := nk) (j := j + 1) K (by omega)
    rw [mk, eK] at this
    exact this
  refine ⟨⟨b1, b2⟩, by rw [b3]; exact arF15 h15 _ _, hcn, b5, ?_⟩
  rcases b4 with ⟨c1, c2, c3⟩ | ⟨c1, c2, c3, c4, c5, c6, c7, c8⟩ | ⟨c1, c2, c3, c4, c5, c6, c7⟩
  · have e := tS_leaf hL b1 c3
    rw [← b3] at e
    refine ⟨Or.inl ⟨c1, e⟩, fun x => ?_⟩
    rw [c2, List.range'_zero, List.flatMap_nil]
    generalize eH (tS L (cd h j) (cv h j)) x = y
    generalize cd h j = D at c3
    cases D with
    | zero => rfl
    | succ d => rw [tRest, if_neg c3]
  · obtain ⟨t1, t2, t3⟩ := tchain hL (cd h j) (cv h j) (cd h (mk nk j)) (cv h (mk nk j)) b1 c5 (by omega) c6 c7 c8 c3
    have e := t3 c4
    rw [← b3] at e t2
    refine ⟨Or.inl ⟨c1, e⟩, fun x => ?_⟩
    rw [c2, List.range'_one, List.flatMap_cons, List.flatMap_nil, List.append_nil, e, eH_pow]
    exact t2
  · refine ⟨Or.inr ⟨c1, c2, ?_⟩, fun x => ?_⟩
    · rw [c5, c6, c7]
      rw [c4] at c3 ⊢
      rw [tS, if_pos c3]
    · rw [c2, show List.range' (mk nk j) 2 = [mk nk j, mk nk j + 1] from rfl, List.flatMap_cons, List.flatMap_cons, List.flatMap_nil, List.append_nil, c5, c6, c7]
      generalize eH (tS L (cd h j) (cv h j)) x = y
      rw [c4] at c3 ⊢
      rw [tRest, if_pos c3]
theorem csF_fr {h h' : ftH} {L : List (Int × Int)} {nk : Nat → Nat} {K : Nat} (hp : csF h L nk K) (f : ∀ c, 122 ≤ c → c < 129 → h' c = h c) : csF h' L nk K := by
  have e1 : ∀ j, cd h' j = cd h j := fun j => by unfold cd; rw [f 123 (by omega) (by omega)]
  have e2 : ∀ j, cv h' j = cv h j := fun j => by unfold cv; rw [f 123 (by omega) (by omega)]
  unfold csF
  simp only [e1, e2, f 122 (by omega) (by omega), f 123 (by omega) (by omega), f 126 (by omega) (by omega), f 127 (by omega) (by omega), f 128 (by omega) (by omega)]
  exact hp
