theorem dec1 {i : Nat} (h : i < 100000) : ft_add ((i + 1 : Nat) : Int) (-1) = (i : Int) := by
  rw [ft_add_eq ⟨by omega, by omega⟩]
  omega
/-- the set of a node, as setOf has it -/
def stOf (h : ftH) (j : Nat) : Int := if h 128 j = 0 then ft_shl 1 (h 127 j) else if h 129 j = 0 then h 130 j else h 129 j
/-- what has come up to a node with two halves from the nodes i and above -/
def upI (h : ftH) (L : List (Int × Int)) (nk : Nat → Nat) (K i : Nat) : Prop := ∀ j, j < K → h 128 j = 1 →
  (i ≤ mk nk j → h 129 j = ((tS L (cd h (mk nk j)) (cv h (mk nk j)) &&& tS L (cd h (mk nk j + 1)) (cv h (mk nk j + 1)) : Nat) : Int) ∧ h 130 j = ((tS L (cd h (mk nk j)) (cv h (mk nk j)) ||| tS L (cd h (mk nk j + 1)) (cv h (mk nk j + 1)) : Nat) : Int)) ∧
  (i = mk nk j + 1 → h 129 j = (tS L (cd h (mk nk j + 1)) (cv h (mk nk j + 1)) : Int) ∧ h 130 j = (tS L (cd h (mk nk j + 1)) (cv h (mk nk j + 1)) : Int)) ∧
  (mk nk j + 2 ≤ i → h 129 j = 65535 ∧ h 130 j = 0)
theorem stOf_eq {h : ftH} {L : List (Int × Int)} (h15 : hop15 L) {nk : Nat → Nat} {K i j : Nat} (hp : csF h L nk K) (hu : upI h L nk K i) (hj : j < K) (hi : i ≤ j + 1) : stOf h j = (tS L (cd h j) (cv h j) : Int) := by
  obtain ⟨b1, b2, b3, b4, b5, b6⟩ := hp.2.2.2.2 j hj
  unfold stOf
  rcases b5 with ⟨c1, c2⟩ | ⟨c1, c2, c3⟩
  · rw [if_pos c1, c2, ← ft_shl_all _ (show (h 127 j).toNat < 16 by omega)]
    congr 1
    omega
  · rw [if_neg (by omega), c3]
    have hjm := hp.2.1.2 j hj
    have := (hu j hj c1).1 (by omega)
    rw [this.1, this.2]
    unfold comb
    by_cases e : tS L (cd h (mk nk j)) (cv h (mk nk j)) &&& tS L (cd h (mk nk j + 1)) (cv h (mk nk j + 1)) = 0
    · rw [if_pos e, if_pos (by rw [e]; rfl)]
    · rw [if_neg e, if_neg (fun q => e (by exact_mod_cast q))]
theorem mk_kid {nk : Nat → Nat} {h : ftH} {L : List (Int × Int)} {K : Nat} (hp : csF h L nk K) {i : Nat} (h0 : 0 < i) (hi : i < K) : ∃ j, j < i ∧ mk nk j ≤ i ∧ i < mk nk j + nk j := by
  have key : ∀ n, n ≤ K → i < mk nk n → ∃ j, j < n ∧ mk nk j ≤ i ∧ i < mk nk j + nk j := by
    intro n
    induction n with
    | zero => intro _ q; rw [mk] at q; omega
    | succ n ih =>
      intro hn q
      by_cases c : i < mk nk n
      · obtain ⟨j, j1, j2⟩ := ih (by omega) c
        exact ⟨j, by omega, j2⟩
      · rw [mk] at q
        exact ⟨n, by omega, by omega, q⟩
  obtain ⟨j, j1, j2, j3⟩ := key K (Nat.le_refl K) (by rw [hp.2.1.1]; exact hi)
  have := hp.2.1.2 j j1
  exact ⟨j, by omega, j2, j3⟩
theorem v_Co_gather {L : List (Int × Int)} (h15 : hop15 L) {nk : Nat → Nat} {K : Nat} {h0 : ftH} (hp0 : csF h0 L nk K) {R : Option ftV → ftH → Prop} (hk : ∀ h : ftH, csF h L nk K → upI h L nk K 1 → (∀ c, c ≠ 129 → c ≠ 130 → h c = h0 c) → R none h) :
    ∀ (i : Nat) (h : ftH), i < K → (∀ c, c ≠ 129 → c ≠ 130 → h c = h0 c) → upI h L nk K (i + 1) → ft_V k_Co_gatherSets 7 [some (.inr (.inr 122)), some (.inl (i : Int)), none] [] h R := by
  intro i
  induction i with
  | zero =>
    intro h hi f hu
    have hp : csF h L nk K := csF_fr hp0 (fun c c1 c2 => f c (by omega) (by omega))
    have ho : h 126 0 = -1 := hp.2.2.2.1.2.2
    refine b_Co_gatherSets_7 ⟨fun c => absurd c (by omega), fun _ => ⟨⟨by omega, by omega⟩, fun n3 _ => ⟨⟨by omega, by omega⟩, fun _ => ?_, fun c => absurd ?_ c⟩⟩⟩
    · rw [show ft_add ((0 : Nat) : Int) (-1) = -1 by rw [ft_add_eq ⟨by omega, by omega⟩]; rfl]
      exact b_Co_gatherSets_7 ⟨fun _ => hk h hp hu f, fun c => absurd (by omega) c⟩
    · show h 126 0 < 0
      rw [ho]
      omega
  | succ i ih =>
    intro h hi f hu
    have hp : csF h L nk K := csF_fr hp0 (fun c c1 c2 => f c (by omega) (by omega))
    have h357 := hp.2.2.1
    obtain ⟨j, j1, j2, j3⟩ := mk_kid hp (show 0 < i + 1 by omega) hi
    obtain ⟨b1, b2, b3, b4, b5, b6⟩ := hp.2.2.2.2 j (by omega)
    have ho : h 126 (i + 1) = (j : Int) := by
      have := b4 (i + 1 - mk nk j) (by omega)
      rw [show mk nk j + (i + 1 - mk nk j) = i + 1 by omega] at this
      exact this
    have hst : stOf h (i + 1) = (tS L (cd h (i + 1)) (cv h (i + 1)) : Int) := stOf_eq h15 hp hu hi (by omega)
    have hok := tS_ok h15 (cd h (i + 1)) (cv h (i + 1))
    refine b_Co_gatherSets_7 ⟨fun c => absurd c (by omega), fun _ => ⟨⟨by omega, by omega⟩, fun n3 e3 => ?_⟩⟩
    rw [Int.toNat_natCast] at e3
    have e3 : n3 = (tS L (cd h (i + 1)) (cv h (i + 1)) : Int) := e3.trans hst
    rw [dec1 (by omega), Int.toNat_natCast, ho, Int.toNat_natCast, e3]
    refine ⟨⟨by omega, by omega⟩, fun c => absurd c (by omega), fun _ => ⟨⟨by omega, by omega⟩, ⟨by omega, by omega⟩, ⟨by omega, by omega⟩, fun h1 e1 => ?_⟩⟩
    have r1 : ∀ c, c ≠ 129 → h1 c = h c := fun c hc => by rw [e1]; exact ft_hs_ne c hc
    rw [r1 126 (by omega), ho, Int.toNat_natCast, r1 130 (by omega)]
    refine ⟨⟨by omega, by omega⟩, ⟨by omega, by omega⟩, ⟨by omega, by omega⟩, fun h2 e2 => ?_⟩
    have r2 : ∀ c, c ≠ 129 → c ≠ 130 → h2 c = h c := fun c c1 c2 => by rw [e2, ft_hs_ne c c2, r1 c c1]
    have e29 : ∀ x, x ≠ j → h2 129 x = h 129 x ∧ h2 130 x = h 130 x := fun x hx => by
      rw [e2, ft_hs_ne 129 (by omega), e1, ft_hs_j hx, ft_hs_j hx, ft_hs_ne 130 (by omega)]
      exact ⟨rfl, rfl⟩
    have e29j : h2 129 j = ft_and (h 129 j) (tS L (cd h (i + 1)) (cv h (i + 1)) : Int) := by rw [e2, ft_hs_ne 129 (by omega), e1, ft_hs_same]
    have e30j : h2 130 j = ft_or (h 130 j) (tS L (cd h (i + 1)) (cv h (i + 1)) : Int) := by rw [e2, ft_hs_same]
    have c1 : ∀ x, cd h2 x = cd h x := fun x => by unfold cd; rw [r2 123 (by omega) (by omega)]
    have c2 : ∀ x, cv h2 x = cv h x := fun x => by unfold cv; rw [r2 123 (by omega) (by omega)]
    refine ih h2 (by omega) (fun c c1 c2 => by rw [r2 c c1 c2, f c c1 c2]) (fun x hx hx1 => ?_)
    rw [r2 128 (by omega) (by omega)] at hx1
    simp only [c1, c2]
    have hux := hu x hx hx1
    by_cases ex : x = j
    · subst ex
      rw [e29j, e30j]
      rcases b5 with ⟨q1, -⟩ | ⟨q1, q2, q3⟩
      · omega
      · by_cases z : i + 1 = mk nk x
        · have := hux.2.1 (by omega)
          have o2 := tS_ok h15 (cd h (mk nk x + 1)) (cv h (mk nk x + 1))
          rw [this.1, this.2, z]
          rw [z] at hok
          refine ⟨fun _ => ⟨?_, ?_⟩, fun q => by omega, fun q => by omega⟩
          · rw [ft_and_nat (by omega) (by omega), Nat.and_comm]
          · rw [ft_or_nat (by omega) (by omega), Nat.or_comm]
        · have ez : i + 1 = mk nk x + 1 := by omega
          have := hux.2.2 (by omega)
          rw [this.1, this.2, ez]
          rw [ez] at hok
          refine ⟨fun q => by omega, fun _ => ⟨?_, ?_⟩, fun q => by omega⟩
          · rw [show (65535 : Int) = ((65535 : Nat) : Int) from rfl, ft_and_nat (by omega) (by omega)]
            congr 1
            rw [Nat.and_comm, show (65535 : Nat) = 2 ^ 16 - 1 from rfl, Nat.and_two_pow_sub_one_eq_mod]
            exact Nat.mod_eq_of_lt hok.2
          · rw [show (0 : Int) = ((0 : Nat) : Int) from rfl, ft_or_nat (by omega) (by omega), Nat.zero_or]
    · rw [(e29 x ex).1, (e29 x ex).2]
      have hxk := (hp.2.2.2.2 x hx).2.2.2.1
      have hn2 : nk x = 2 := by
        rcases (hp.2.2.2.2 x hx).2.2.2.2.1 with ⟨q1, -⟩ | ⟨q1, q2, -⟩
        · omega
        · exact q2
      have hno : ¬ (mk nk x ≤ i + 1 ∧ i + 1 < mk nk x + 2) := fun q => by
        have := hxk (i + 1 - mk nk x) (by omega)
        rw [show mk nk x + (i + 1 - mk nk x) = i + 1 by omega, ho] at this
        omega
      refine ⟨fun q => hux.1 (by omega), fun q => by omega, fun q => hux.2.2 (by omega)⟩
theorem c_Co_gather {L : List (Int × Int)} (h15 : hop15 L) {nk : Nat → Nat} {K : Nat} {h : ftH} (hp : csF h L nk K) (h0 : ∀ j, j < K → h 129 j = 65535 ∧ h 130 j = 0) : ft_C k_Co_gatherSets [.inr (.inr 122)] h (fun r h' => r = none ∧ csF h' L nk K ∧ upI h' L nk K 1 ∧ ∀ c, c ≠ 129 → c ≠ 130 → h' c = h c) := by
  have hK : 1 ≤ K := by have := mk_pos nk K; have := hp.2.1.1; omega
  have h357 := hp.2.2.1
  refine ft_enter (n := 2) rfl (Nat.le_of_ble_eq_true rfl) rfl (b_Co_gatherSets_0 (fun n1 e1 => ?_))
  rw [hp.1, ft_sub_eq ⟨by omega, by omega⟩] at e1
  rw [e1, show (K : Int) - 1 = ((K - 1 : Nat) : Int) by omega]
  refine v_Co_gather h15 hp (fun g k1 k2 k3 => ⟨rfl, k1, k2, k3⟩) (K - 1) h (by omega) (fun c _ _ => rfl) (fun j hj hj1 => ?_)
  obtain ⟨b1, b2, b3, b4, b5, b6⟩ := hp.2.2.2.2 j hj
  have hn2 : nk j = 2 := by
    rcases b5 with ⟨q1, -⟩ | ⟨q1, q2, -⟩
    · omega
    · exact q2
  exact ⟨fun q => by omega, fun q => by omega, fun _ => h0 j hj⟩
