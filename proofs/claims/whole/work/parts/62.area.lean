/-! PURE: parents, depths, numbers of addresses -/
theorem least_of {P : Nat → Prop} : ∀ n, P n → ∃ k, k ≤ n ∧ P k ∧ ∀ j, j < k → ¬ P j := by
  intro n
  induction n using Nat.strongRecOn with
  | _ n ih =>
    intro hn
    by_cases c : ∃ m, m < n ∧ P m
    · obtain ⟨m, h1, h2⟩ := c
      obtain ⟨k, k1, k2, k3⟩ := ih m h1 h2
      exact ⟨k, by omega, k2, k3⟩
    · exact ⟨n, Nat.le_refl n, hn, fun j hj hP => c ⟨j, hj, hP⟩⟩
def sm (f : Nat → Int) : Nat → Int
  | 0 => 0
  | n + 1 => sm f n + f n
theorem sm_ext {f g : Nat → Int} : ∀ n, (∀ j, j < n → f j = g j) → sm f n = sm g n
  | 0, _ => rfl
  | n + 1, h => by rw [sm, sm, sm_ext n (fun j hj => h j (by omega)), h n (by omega)]
theorem sm_add {f g : Nat → Int} : ∀ n, sm (fun j => f j + g j) n = sm f n + sm g n
  | 0 => rfl
  | n + 1 => by rw [sm, sm, sm, sm_add n]; omega
theorem sm_zero {f : Nat → Int} : ∀ n, (∀ j, j < n → f j = 0) → sm f n = 0
  | 0, _ => rfl
  | n + 1, h => by rw [sm, sm_zero n (fun j hj => h j (by omega)), h n (by omega)]; rfl
theorem sm_single {f : Nat → Int} {k : Nat} : ∀ n, k < n → (∀ j, j < n → j ≠ k → f j = 0) → sm f n = f k
  | 0, h, _ => absurd h (Nat.not_lt_zero k)
  | n + 1, h, h0 => by
    rw [sm]
    by_cases c : k = n
    · subst c
      rw [sm_zero k (fun j hj => h0 j (by omega) (by omega)), Int.zero_add]
    · rw [sm_single n (by omega) (fun j hj hne => h0 j (by omega) hne), h0 n (by omega) (fun q => c q.symm), Int.add_zero]
theorem sm_rng {f : Nat → Int} {b : Int} : ∀ n : Nat, (∀ j, j < n → 0 ≤ f j ∧ f j ≤ b) → 0 ≤ sm f n ∧ sm f n ≤ b * n
  | 0, _ => by simp [sm]
  | n + 1, h => by
    have h1 := sm_rng n (fun j hj => h j (by omega))
    have h2 := h n (by omega)
    rw [sm]
    push_cast
    rw [Int.mul_add, Int.mul_one]
    omega
theorem par_of_lg {L : List (Int × Int)} (hL : lOk L) {i : Nat} (hi : i < L.length) {r : Int} (h : isLg L (kS L i) (kN L i) r) : (r < 0 → parI L i = -1) ∧ (0 ≤ r → parI L i = r ∧ r < i) ∧ (r = -2 ∨ 0 ≤ r) := by
  have hr := kS_rng hL hi
  have self : pIn (kAt L i) (kS L i) := kIn_iff.mpr ⟨Int.le_refl _, hr.2.2.2.2⟩
  rcases h with ⟨rfl, h⟩ | ⟨p, q, rfl, h1, h2, h3⟩
  · refine ⟨fun _ => ?_, fun q => absurd q (by omega), Or.inl rfl⟩
    refine lmI_no (fun j hj hin => ?_)
    rw [List.length_take] at hj
    rw [(kAt_take (by omega)).1] at hin
    have hn := kIn_nest hL (show j < i by omega) hi hin self
    exact h _ (List.mem_of_getElem? (kAt_get (show j < L.length by omega))) ⟨hn.1, (pCt_iff (kAt_pK hL (by omega))).mpr hin⟩
  · have hp := (List.getElem?_eq_some_iff.mp h1).1
    have e := (kAt_of h1).1
    rw [← e] at h2 h3
    have hin := (pCt_iff (kAt_pK hL hp)).mp h2.2
    have hlt : kN L p < kN L i := h2.1
    have hpi : p < i := by
      rcases Nat.lt_trichotomy p i with c | c | c
      · exact c
      · rw [c] at hlt; omega
      · have := (kIn_nest hL c hp self hin).1; omega
    refine ⟨fun q => absurd q (by omega), fun _ => ⟨?_, by omega⟩, Or.inr (by omega)⟩
    refine lmI_eq (by rw [List.length_take]; omega) (by rw [(kAt_take hpi).1]; exact hin) (fun j j1 j2 hj => ?_)
    rw [List.length_take] at j2
    rw [(kAt_take (by omega)).1] at hj
    have a1 := kIn_nest hL j1 (by omega) hin hj
    have a2 := kIn_nest hL (show j < i by omega) hi hj self
    have a3 := h3 j _ (kAt_get (by omega)) ⟨a2.1, (pCt_iff (kAt_pK hL (by omega))).mpr hj⟩
    have : kN L j ≤ kN L p := by
      first
      | exact a3.1
      | exact a3
    omega
theorem parI_rng (L : List (Int × Int)) (i : Nat) : -1 ≤ parI L i ∧ parI L i < i := by
  have := lmI_rng (L.take i) (kS L i)
  rw [List.length_take] at this
  unfold parI
  omega
theorem par_in {L : List (Int × Int)} {i p : Nat} (hi : i < L.length) (h : parI L i = (p : Int)) : p < i ∧ pIn (kAt L p) (kS L i) ∧ ∀ j, p < j → j < i → ¬ pIn (kAt L j) (kS L i) := by
  obtain ⟨h1, h2, h3⟩ := lmI_in h
  rw [List.length_take] at h1 h3
  rw [(kAt_take (by omega)).1] at h2
  refine ⟨by omega, h2, fun j j1 j2 q => h3 j j1 (by omega) (by rw [(kAt_take (by omega)).1]; exact q)⟩
theorem par_eq {L : List (Int × Int)} {i p : Nat} (hi : i < L.length) (h1 : p < i) (h2 : pIn (kAt L p) (kS L i)) (h3 : ∀ j, p < j → j < i → ¬ pIn (kAt L j) (kS L i)) : parI L i = (p : Int) :=
  lmI_eq (by rw [List.length_take]; omega) (by rw [(kAt_take h1).1]; exact h2) (fun j j1 j2 q => by
    rw [List.length_take] at j2
    rw [(kAt_take (by omega)).1] at q
    exact h3 j j1 (by omega) q)
theorem par_no {L : List (Int × Int)} {i : Nat} (hi : i < L.length) (h : parI L i < 0) : ∀ j, j < i → ¬ pIn (kAt L j) (kS L i) := fun j hj q => by
  have := (lmI_neg h).2 j (by rw [List.length_take]; omega)
  rw [(kAt_take hj).1] at this
  exact this q
/-- what lies in a place lies in what is around it -/
theorem in_up {L : List (Int × Int)} (hL : lOk L) {i j : Nat} (hij : i < j) (hj : j < L.length) {x y : Int} (h1 : pIn (kAt L i) x) (h2 : pIn (kAt L j) x) (h3 : pIn (kAt L j) y) : pIn (kAt L i) y := by
  have := kIn_nest hL hij hj h1 h2
  have := kIn_iff.mp h3
  exact kIn_iff.mpr ⟨by omega, by omega⟩
theorem in_self {L : List (Int × Int)} (hL : lOk L) {i : Nat} (hi : i < L.length) : pIn (kAt L i) (kS L i) := kIn_iff.mpr ⟨Int.le_refl _, (kS_rng hL hi).2.2.2.2⟩
def ind (b : Bool) : Int := if b = true then 1 else 0
theorem kid_one {L : List (Int × Int)} (hL : lOk L) {i : Nat} (hi : i < L.length) (x : Int) : ind (pInB (kAt L i) x) = ind (decide (lmI L x = (i : Int))) + sm (fun k => if parI L k = (i : Int) then ind (pInB (kAt L k) x) else 0) L.length := by
  have kid : ∀ k, k < L.length → parI L k = (i : Int) → pIn (kAt L k) x → i < k ∧ pIn (kAt L i) x := fun k hk hp hx => by
    obtain ⟨h1, h2, h3⟩ := par_in hk hp
    exact ⟨h1, in_up hL h1 hk h2 (in_self hL hk) hx⟩
  by_cases c : pIn (kAt L i) x
  · have e1 : ind (pInB (kAt L i) x) = 1 := by rw [pInB_iff.mpr c]; rfl
    by_cases d : lmI L x = (i : Int)
    · rw [e1, decide_eq_true d, sm_zero L.length (fun k hk => ?_)]
      · rfl
      · split
        · next hp =>
          rw [pInB_no (fun q => ?_)]
          · rfl
          · exact (lmI_in d).2.2 k (kid k hk hp q).1 hk q
        · rfl
    · have hex : ∃ j, i < j ∧ j < L.length ∧ pIn (kAt L j) x := by
        by_cases e : ∃ j, i < j ∧ j < L.length ∧ pIn (kAt L j) x
        · exact e
        · exact absurd (lmI_eq hi c (fun j j1 j2 q => e ⟨j, j1, j2, q⟩)) d
      obtain ⟨j, hj⟩ := hex
      obtain ⟨k, k1, ⟨k2, k3, k4⟩, k5⟩ := least_of (P := fun j => i < j ∧ j < L.length ∧ pIn (kAt L j) x) j hj
      have hpk : parI L k = (i : Int) := by
        refine par_eq k3 k2 (in_up hL k2 k3 c k4 (in_self hL k3)) (fun m m1 m2 q => ?_)
        exact k5 m m2 ⟨m1, by omega, in_up hL m2 k3 q (in_self hL k3) k4⟩
      rw [e1, decide_eq_false d, sm_single L.length k3 (fun m hm hne => ?_)]
      · simp only [hpk, if_pos]
        rw [pInB_iff.mpr k4]
        rfl
      · split
        · next hp =>
          rw [pInB_no (fun q => ?_)]
          · rfl
          · have h1 := kid m hm hp q
            have h2 : k < m := by
              rcases Nat.lt_trichotomy k m with a | a | a
              · exact a
              · exact absurd a.symm hne
              · exact absurd ⟨h1.1, hm, q⟩ (k5 m a)
            exact (par_in hm hp).2.2 k k2 h2 (in_up hL h2 hm k4 q (in_self hL hm))
        · rfl
  · have hd : lmI L x ≠ (i : Int) := fun q => c (lmI_in q).2.1
    rw [pInB_no c, decide_eq_false hd, sm_zero L.length (fun k hk => ?_)]
    · rfl
    · split
      · next hp =>
        rw [pInB_no (fun q => c (kid k hk hp q).2)]
        rfl
      · rfl
theorem kid_cN {L : List (Int × Int)} (hL : lOk L) {i : Nat} (hi : i < L.length) : ∀ n : Nat, cN (fun x => pInB (kAt L i) x) n = cN (fun x => decide (lmI L x = (i : Int))) n + sm (fun k => if parI L k = (i : Int) then cN (fun x => pInB (kAt L k) x) n else 0) L.length
  | 0 => by
    rw [sm_zero]
    · rfl
    · intro j _
      split <;> rfl
  | n + 1 => by
    have h1 := kid_cN hL hi n
    have h2 := kid_one hL hi (n : Int)
    have h3 : sm (fun k => if parI L k = (i : Int) then cN (fun x => pInB (kAt L k) x) (n + 1) else 0) L.length = sm (fun k => if parI L k = (i : Int) then cN (fun x => pInB (kAt L k) x) n else 0) L.length + sm (fun k => if parI L k = (i : Int) then ind (pInB (kAt L k) (n : Int)) else 0) L.length := by
      rw [← sm_add]
      refine sm_ext _ (fun k _ => ?_)
      split
      · rw [cN]; rfl
      · rfl
    rw [h3, cN, cN, h1]
    unfold ind at h2
    unfold ind
    omega
theorem pin_cN {k : Int} (hk : pK k) : cN (fun x => pInB k x) W32 = pSz (k % 64) := by
  have h1 := pK_end hk
  have h2 := pSz_pos (k % 64)
  have h0 : 0 ≤ k / 64 := by have := hk.1.1; omega
  obtain ⟨s, hs⟩ := Int.eq_ofNat_of_zero_le h0
  obtain ⟨e, he⟩ := Int.eq_ofNat_of_zero_le (show 0 ≤ k / 64 + pSz (k % 64) by omega)
  have hW := W32_eq
  rw [cN_seg (lo := e) (hi := W32) (b := false) (by omega) (fun x a1 a2 => pInB_no (fun q => by unfold pIn at q; omega)), cN_seg (lo := s) (hi := e) (b := true) (by omega) (fun x a1 a2 => pInB_iff.mpr (by unfold pIn; omega)), cN_seg (lo := 0) (hi := s) (b := false) (by omega) (fun x a1 a2 => pInB_no (fun q => by unfold pIn at q; omega))]
  simp only [cN, if_pos]
  simp
  omega
/-- the addresses for which a place is the longest -/
def ownI (L : List (Int × Int)) (i : Nat) : Int := cN (fun x => decide (lmI L x = (i : Int))) W32
theorem own_area {L : List (Int × Int)} (hL : lOk L) {i : Nat} (hi : i < L.length) : pSz (kN L i) - sm (fun k => if parI L k = (i : Int) then pSz (kN L k) else 0) L.length = ownI L i := by
  have h1 := kid_cN hL hi W32
  rw [pin_cN (kAt_pK hL hi)] at h1
  rw [sm_ext (g := fun k => if parI L k = (i : Int) then pSz (kN L k) else 0) L.length (fun k hk => by split; exact pin_cN (kAt_pK hL hk); rfl)] at h1
  unfold ownI
  have : pSz (kAt L i % 64) = pSz (kN L i) := rfl
  omega
theorem dep_par {L : List (Int × Int)} (hL : lOk L) {i : Nat} (hi : i < L.length) : (parI L i < 0 → dep L i = 0) ∧ ∀ p : Nat, parI L i = (p : Int) → dep L i = dep L p + 1 := by
  constructor
  · intro h
    unfold dep
    rw [List.length_eq_zero_iff, List.filter_eq_nil_iff]
    intro j hj
    rw [List.mem_range] at hj
    rw [pInB_no (par_no hi h j hj)]
    decide
  · intro p hp
    obtain ⟨h1, h2, h3⟩ := par_in hi hp
    unfold dep
    have e : (List.range i).filter (fun j => pInB (kAt L j) (kS L i)) = (List.range p).filter (fun j => pInB (kAt L j) (kS L p)) ++ [p] := by
      refine sorted_ext (r := fun a b : Nat => a < b) (fun a b h1 h2 => by omega) (List.pairwise_lt_range.sublist List.filter_sublist) ?_ (fun x => ?_)
      · rw [List.pairwise_append]
        refine ⟨List.pairwise_lt_range.sublist List.filter_sublist, List.pairwise_singleton _ _, fun a ha b hb => ?_⟩
        rw [List.mem_filter, List.mem_range] at ha
        rw [List.mem_singleton] at hb
        omega
      · rw [List.mem_filter, List.mem_range, List.mem_append, List.mem_filter, List.mem_range, List.mem_singleton, pInB_iff, pInB_iff]
        have hpL : p < L.length := by omega
        constructor
        · rintro ⟨a1, a2⟩
          rcases Nat.lt_trichotomy x p with c | c | c
          · exact Or.inl ⟨c, in_up hL c hpL a2 h2 (in_self hL hpL)⟩
          · exact Or.inr c
          · exact absurd a2 (h3 x c a1)
        · rintro (⟨a1, a2⟩ | rfl)
          · exact ⟨by omega, in_up hL a1 hpL a2 (in_self hL hpL) h2⟩
          · exact ⟨h1, h2⟩
    rw [e, List.length_append, List.length_singleton]
theorem dep_le {L : List (Int × Int)} (hL : lOk L) : ∀ i, i < L.length → (dep L i : Int) ≤ kN L i := by
  intro i
  induction i using Nat.strongRecOn with
  | _ i ih =>
    intro hi
    have hd := dep_par hL hi
    have hr := kS_rng hL hi
    by_cases c : parI L i < 0
    · rw [hd.1 c]
      simp
      exact hr.2.2.1
    · obtain ⟨p, hp⟩ := Int.eq_ofNat_of_zero_le (show 0 ≤ parI L i by omega)
      obtain ⟨h1, h2, h3⟩ := par_in hi hp
      rw [hd.2 p hp]
      have h4 := ih p h1 (by omega)
      have h5 := (kIn_nest hL h1 hi h2 (in_self hL hi)).1
      push_cast
      omega
/-- all answers, by hop -/
theorem ans_one (L : List (Int × Int)) (z x : Int) : ind (decide (ansOf L x = z)) = sm (fun i => if vAt L i = z then ind (decide (lmI L x = (i : Int))) else 0) L.length + if z = 0 then 1 - sm (fun i => ind (decide (lmI L x = (i : Int)))) L.length else 0 := by
  rw [ansOf_lmI]
  by_cases c : 0 ≤ lmI L x
  · rw [if_pos c]
    obtain ⟨p, hp⟩ := Int.eq_ofNat_of_zero_le c
    have hlt : p < L.length := (lmI_in hp).1
    rw [hp, Int.toNat_natCast]
    have z1 : sm (fun i => ind (decide ((p : Int) = (i : Int)))) L.length = 1 := by
      rw [sm_single L.length hlt (fun j _ hne => by rw [decide_eq_false (by omega)]; rfl)]
      simp only [decide_true]
      rfl
    have z2 : sm (fun i => if vAt L i = z then ind (decide ((p : Int) = (i : Int))) else 0) L.length = if vAt L p = z then 1 else 0 := by
      rw [sm_single L.length hlt (fun j _ hne => by rw [decide_eq_false (by omega)]; split <;> rfl)]
      simp only [decide_true]
      rfl
    rw [z1, z2]
    unfold ind
    simp only [decide_eq_true_eq]
    split <;> split <;> simp
  · rw [if_neg c]
    have z1 : sm (fun i => ind (decide (lmI L x = (i : Int)))) L.length = 0 := sm_zero _ (fun j _ => by rw [decide_eq_false (by omega)]; rfl)
    have z2 : sm (fun i => if vAt L i = z then ind (decide (lmI L x = (i : Int))) else 0) L.length = 0 := sm_zero _ (fun j _ => by rw [decide_eq_false (by omega)]; split <;> rfl)
    rw [z1, z2]
    unfold ind
    simp only [decide_eq_true_eq]
    by_cases e : z = 0
    · rw [if_pos e.symm, if_pos e]; rfl
    · rw [if_neg (fun q => e q.symm), if_neg e]; rfl
theorem ans_cN (L : List (Int × Int)) (z : Int) : ∀ n : Nat, cN (fun x => decide (ansOf L x = z)) n = sm (fun i => if vAt L i = z then cN (fun x => decide (lmI L x = (i : Int))) n else 0) L.length + if z = 0 then (n : Int) - sm (fun i => cN (fun x => decide (lmI L x = (i : Int))) n) L.length else 0
  | 0 => by
    rw [sm_zero, sm_zero]
    · rw [cN]; split <;> rfl
    · intro j _; rfl
    · intro j _; split <;> rfl
  | n + 1 => by
    have h1 := ans_cN L z n
    have h2 := ans_one L z (n : Int)
    have h3 : sm (fun i => if vAt L i = z then cN (fun x => decide (lmI L x = (i : Int))) (n + 1) else 0) L.length = sm (fun i => if vAt L i = z then cN (fun x => decide (lmI L x = (i : Int))) n else 0) L.length + sm (fun i => if vAt L i = z then ind (decide (lmI L (n : Int) = (i : Int))) else 0) L.length := by
      rw [← sm_add]
      refine sm_ext _ (fun k _ => ?_)
      split
      · rw [cN]; rfl
      · rfl
    have h4 : sm (fun i => cN (fun x => decide (lmI L x = (i : Int))) (n + 1)) L.length = sm (fun i => cN (fun x => decide (lmI L x = (i : Int))) n) L.length + sm (fun i => ind (decide (lmI L (n : Int) = (i : Int)))) L.length := by
      rw [← sm_add]
      refine sm_ext _ (fun k _ => ?_)
      rw [cN]
      rfl
    rw [h3, h4, cN, h1]
    have h5 : (if (fun x => decide (ansOf L x = z)) (n : Int) = true then (1 : Int) else 0) = ind (decide (ansOf L (n : Int) = z)) := rfl
    rw [h5, h2]
    push_cast
    split <;> omega
