theorem v_Cv_leave {a b : Nat} (ha : ft_sh a = some (.inl 2)) (hb : ft_sh b = some (.inl 4)) (hab : b + 3 ≤ a ∨ a + 7 ≤ b) {L : List (Int × Int)} (hL : lOk L) (hLn : L.length ≤ ft_ln (a + 2)) {t i : Nat} (ht : t ≤ 4294967296) (hti : ∀ j, i ≤ j → j < L.length → (t : Int) ≤ kS L j) {h0 : ftH} {R : Option ftV → ftH → Prop} :
    ∀ (os : List Nat) (h : ftH) (w : Nat), setI h b L → (∀ k, k ≠ a → k ≠ a + 4 → k ≠ a + 5 → k ≠ a + 6 → h k = h0 k) → (∀ j, j ≠ 5 → j ≠ 8 → j ≠ 9 → h a j = h0 a j) → stk L i os w → w ≤ t → cvW h a L i os w → os.length ≤ 33 → h a 5 + os.length ≤ 2 * ft_ln (a + 2) →
      (∀ (h' : ftH) (os' : List Nat) (w' : Nat), (∀ k, k ≠ a → k ≠ a + 4 → k ≠ a + 5 → k ≠ a + 6 → h' k = h0 k) → (∀ j, j ≠ 5 → j ≠ 8 → j ≠ 9 → h' a j = h0 a j) → stk L i os' w' → w' ≤ t → (∀ j ∈ os', (t : Int) < kE L j) → os'.length ≤ os.length → cvW h' a L i os' w' → h' a 5 + os'.length ≤ h a 5 + os.length → R none h') →
      ft_V k_Cv_leaveUpTo 0 [some (.inr (.inr a)), some (.inr (.inl (t : Int))), none, some (.inr (.inr b))] [] h R := by
  have hln := ft_ln_cv ha
  intro os
  induction os with
  | nil =>
    intro h w hS f1 f2 hs hw hI h33 hrm hk
    exact b_Cv_leaveUpTo_0 ha hb ⟨fun c => hk h [] w f1 f2 hs hw (by simp) (Nat.le_refl _) hI (Int.le_refl _), fun c => absurd (by have := hI.2.1; rw [List.length_nil] at this; omega) c⟩
  | cons p os ih =>
    intro h w hS f1 f2 hs hw hI h33 hrm hk
    obtain ⟨g9, g8, go, gw, m, gm, gr⟩ := id hI
    rw [List.length_cons] at g8 h33 hrm hk
    have hp := hs.2.1 p List.mem_cons_self
    have hpL : p < L.length := by have := hs.1; omega
    have hpK := kAt_pK hL hpL
    have hE := kE_le hL hpL
    have htop : h (a + 1) os.length = ((p : Nat) : Int) := by
      refine go os.length p ?_
      rw [List.reverse_cons, List.getElem?_append_right (by rw [List.length_reverse]; exact Nat.le_refl _), List.length_reverse, Nat.sub_self]
      rfl
    have hmin : ∀ j ∈ p :: os, kE L p ≤ kE L j := fun j hj => by
      rcases List.mem_cons.mp hj with e | e
      · rw [e]; exact Int.le_refl _
      · exact ((List.pairwise_cons.mp hs.2.2.2.1).1 j e).2.1
    refine b_Cv_leaveUpTo_0 ha hb ⟨fun c => absurd c (by omega), fun c => ?_⟩
    rw [g8, ft_sub_eq ⟨by omega, by omega⟩, show (((os.length + 1 : Nat) : Int) - 1).toNat = os.length by omega, htop, Int.toNat_natCast, (hS.2.2 p hpL).1]
    have hlb := hS.2.1
    have hpe : kAt L p / 64 + pSz (kAt L p % 64) = kE L p := rfl
    rw [hpe]
    refine ⟨⟨by omega, by omega⟩, ⟨by omega, by omega⟩, ⟨⟨hpK.1.1, hpK.1.2⟩, hpK.2.1⟩, fun d => ?_, fun d => ⟨⟨by omega, by omega⟩, ⟨by omega, by omega⟩, ⟨⟨hpK.1.1, hpK.1.2⟩, hpK.2.1⟩, ?_⟩⟩
    · exact hk h (p :: os) w f1 f2 hs hw (fun j hj => by have := hmin j hj; omega) (Nat.le_refl _) hI (Int.le_refl _)
    · obtain ⟨w2, hw2⟩ := Int.eq_ofNat_of_zero_le (show 0 ≤ kE L p by omega)
      rw [hw2]
      refine ⟨_, c_Cv_walkTo ha hb hab hS hLn hI (by rw [List.length_cons]; exact h33) (fun j hj => ⟨(hs.2.1 j hj).1, by have := (hs.2.1 j hj).1; have := hs.1; omega⟩) (w' := w2) (by omega) (by omega) (stk_hd hs (fun j hj => by have := hmin j hj; omega) (fun j j1 j2 => by have := hti j j1 j2; omega)) (by omega), fun h1 hw1 h2 e2 => ?_⟩
      obtain ⟨-, k1, k2, k3, k9, k8, ko, kw, m', km, kr⟩ := hw1
      rw [List.length_cons] at k8
      rw [k8, ft_sub_eq ⟨by omega, by omega⟩] at e2
      have qa : ∀ k, k ≠ a → h2 k = h1 k := fun k hk' => by rw [e2]; exact ft_hs_ne k hk'
      have qj : ∀ j, j ≠ 8 → h2 a j = h1 a j := fun j hj => by rw [e2]; exact ft_hs_j hj
      refine ih h2 w2 (setI_fr hS (fun k c1 c2 => by rw [qa k (by omega), k1 k (by omega) (by omega) (by omega) (by omega)])) (fun k c1 c2 c3 c4 => by rw [qa k c1, k1 k c1 c2 c3 c4, f1 k c1 c2 c3 c4]) (fun j c1 c2 c3 => by rw [qj j c2, k2 j c1 c3, f2 j c1 c2 c3]) (stk_pop hs hw2 (fun k c1 c2 => by have := hti k c1 c2; omega)) (by omega) ⟨by rw [qj 9 (by omega)]; exact k9, by rw [e2, ft_hs_same]; omega, fun d j hd => ?_, fun j hj => by rw [qa _ (by omega)]; exact kw j hj, m', by rw [qj 5 (by omega)]; exact km, by rw [qa _ (by omega), qa _ (by omega)]; exact kr⟩ (by omega) (by rw [qj 5 (by omega)]; omega) (fun h' os' w' l1 l2 l3 l4 l5 l6 l7 l8 => hk h' os' w' l1 l2 l3 l4 l5 (by omega) l7 (by rw [qj 5 (by omega)] at l8; omega))
      rw [qa _ (by omega)]
      refine ko d j ?_
      rw [List.reverse_cons, List.getElem?_append_left (List.getElem?_eq_some_iff.mp hd).1]
      exact hd
def cvF (h : ftH) (a : Nat) (L : List (Int × Int)) : Prop := (∀ j, j < L.length → h (a + 2) j = parI L j ∧ h (a + 3) j = (dep L j : Int) ∧ h (a + 4) j = cN (fun x => decide (lmI L x = (j : Int))) W32) ∧ h a 6 = mx (fun j => (dep L j : Int) + 1) L.length ∧ ∃ m : Nat, h a 5 = (m : Int) ∧ m ≤ ft_ln (a + 5) ∧ rnI (ansOf L) m (h (a + 5)) (h (a + 6)) W32
theorem cvF_fr {h h' : ftH} {a : Nat} {L : List (Int × Int)} (hF : cvF h a L) (f : ∀ k, a ≤ k → k < a + 7 → h' k = h k) : cvF h' a L := by
  unfold cvF
  rw [f a (by omega) (by omega), f (a + 2) (by omega) (by omega), f (a + 3) (by omega) (by omega), f (a + 4) (by omega) (by omega), f (a + 5) (by omega) (by omega), f (a + 6) (by omega) (by omega)]
  exact hF
theorem mx_rng {f : Nat → Int} {b : Int} (hb : 0 ≤ b) : ∀ n, (∀ j, j < n → f j ≤ b) → 0 ≤ mx f n ∧ mx f n ≤ b
  | 0, _ => ⟨Int.le_refl 0, hb⟩
  | n + 1, h => by
    have := mx_rng hb n (fun j hj => h j (by omega))
    have := h n (by omega)
    rw [mx]
    omega
theorem v_Cv_sweep {a b : Nat} (ha : ft_sh a = some (.inl 2)) (hb : ft_sh b = some (.inl 4)) (hab : b + 3 ≤ a ∨ a + 7 ≤ b) {L : List (Int × Int)} (hL : lOk L) (hLn : L.length ≤ ft_ln (a + 2)) {h0 : ftH} (hS0 : setI h0 b L) {R : Option ftV → ftH → Prop} (hk : ∀ h' : ftH, (∀ k, k < a ∨ a + 7 ≤ k → h' k = h0 k) → cvF h' a L → R none h') :
    ∀ (m i : Nat) (os : List Nat) (w : Nat) (h : ftH), i + m = L.length → (∀ k, k < a ∨ a + 7 ≤ k → h k = h0 k) → stk L i os w → (w ≤ 4294967296) → cvW h a L i os w → os.length ≤ 33 → h a 5 + os.length ≤ 2 * i → (∀ j, j < i → h (a + 2) j = parI L j ∧ h (a + 3) j = (dep L j : Int)) → h a 6 = mx (fun j => (dep L j : Int) + 1) i →
      ft_V k_Cv_sweep 22 [some (.inr (.inr a)), some (.inr (.inr b)), some (.inl (i : Int)), none, none] [] h R := by
  have hln := ft_ln_cv ha
  have hlb := ft_ln_ps hb
  intro m
  induction m with
  | zero =>
    intro i os w h hi hf hs hw hI h33 hrm hpd hmx
    have hS : setI h b L := setI_fr hS0 (fun k k1 k2 => hf k (by omega))
    have fin : ∃ R1 : Option ftV → ftH → Prop, ft_C k_Cv_leaveUpTo [.inr (.inr a), .inr (.inl 4294967296), .inr (.inr b)] h R1 ∧ ∀ h1 : ftH, R1 none h1 → (∃ R3 : Option ftV → ftH → Prop, ft_C k_Cv_walkTo [.inr (.inr a), .inr (.inl 4294967296), .inr (.inr b)] h1 R3 ∧ ∀ h2 : ftH, R3 none h2 → R none h2) := by
      have hlv := v_Cv_leave (t := 4294967296) (i := i) ha hb hab hL hLn (Nat.le_refl _) (fun j j1 j2 => by omega) (h0 := h) (R := fun r h' => r = none ∧ ∃ (os' : List Nat) (w' : Nat), (∀ k, k ≠ a → k ≠ a + 4 → k ≠ a + 5 → k ≠ a + 6 → h' k = h k) ∧ (∀ j, j ≠ 5 → j ≠ 8 → j ≠ 9 → h' a j = h a j) ∧ stk L i os' w' ∧ w' ≤ 4294967296 ∧ (∀ j ∈ os', ((4294967296 : Nat) : Int) < kE L j) ∧ os'.length ≤ os.length ∧ cvW h' a L i os' w' ∧ h' a 5 + os'.length ≤ h a 5 + os.length) os h w hS (fun k _ _ _ _ => rfl) (fun j _ _ _ => rfl) hs hw hI h33 (by omega) (fun h' os' w' l1 l2 l3 l4 l5 l6 l7 l8 => ⟨rfl, os', w', l1, l2, l3, l4, l5, l6, l7, l8⟩)
      refine ⟨_, ft_enter (n := 0) rfl (Nat.le_of_ble_eq_true rfl) rfl hlv, fun h1 hw1 => ?_⟩
      obtain ⟨-, os', w', l1, l2, l3, l4, l5, l6, l7, l8⟩ := hw1
      have eos : os' = [] := by
        cases os' with
        | nil => rfl
        | cons j os' =>
          have h1 := l5 j List.mem_cons_self
          have h2 := (l3.2.1 j List.mem_cons_self).1
          have := kE_le hL (show j < L.length by omega)
          omega
      subst eos
      have hS1 : setI h1 b L := setI_fr hS (fun k k1 k2 => l1 k (by omega) (by omega) (by omega) (by omega))
      refine ⟨_, c_Cv_walkTo ha hb hab hS1 hLn l7 (by simp) (by simp) (w' := 4294967296) l4 (Nat.le_refl _) (stk_hd l3 (by simp) (fun j j1 j2 => by omega)) (by rw [List.length_nil] at l8; omega), fun h2 hw2 => ?_⟩
      obtain ⟨-, k1, k2, k3, k9, k8, ko, kw, m', km, kr⟩ := hw2
      refine hk h2 (fun k hk' => by rw [k1 k (by omega) (by omega) (by omega) (by omega), l1 k (by omega) (by omega) (by omega) (by omega), hf k hk']) ⟨fun j hj => ?_, ?_, m', km, by rw [List.length_nil] at l8; omega, kr⟩
      · rw [k1 (a + 2) (by omega) (by omega) (by omega) (by omega), k1 (a + 3) (by omega) (by omega) (by omega) (by omega), l1 (a + 2) (by omega) (by omega) (by omega) (by omega), l1 (a + 3) (by omega) (by omega) (by omega) (by omega)]
        exact ⟨(hpd j (by omega)).1, (hpd j (by omega)).2, kw j (by omega)⟩
      · rw [k2 6 (by omega) (by omega), l2 6 (by omega) (by omega) (by omega), hmx, show i = L.length by omega]
    exact b_Cv_sweep_22 ha hb ⟨fun _ => fin, fun c => absurd (by have := hS.1; omega) c⟩
  | succ m ih =>
    intro i os w h hi hf hs hw hI h33 hrm hpd hmx
    have hS : setI h b L := setI_fr hS0 (fun k k1 k2 => hf k (by omega))
    have hiL : i < L.length := by omega
    have hpK := kAt_pK hL hiL
    have hr := kS_rng hL hiL
    refine b_Cv_sweep_22 ha hb ⟨fun c => absurd c (by have := hS.1; omega), fun _ => ⟨fun c => absurd c (by omega), fun _ => ⟨⟨by omega, by have := hS.2.1; omega⟩, by rw [Int.toNat_natCast, (hS.2.2 i hiL).1]; exact hpK.1.1, fun n11 e11 => ?_⟩⟩⟩
    rw [Int.toNat_natCast, (hS.2.2 i hiL).1] at e11
    have e11 : n11 = kS L i := e11
    obtain ⟨t, ht⟩ := Int.eq_ofNat_of_zero_le hr.1
    rw [e11, ht, Int.toNat_natCast]
    have hlv := v_Cv_leave (t := t) (i := i) ha hb hab hL hLn (by omega) (fun j j1 j2 => by have := kS_le hL j1 j2; omega) (h0 := h) (R := fun r h' => r = none ∧ ∃ (os' : List Nat) (w' : Nat), (∀ k, k ≠ a → k ≠ a + 4 → k ≠ a + 5 → k ≠ a + 6 → h' k = h k) ∧ (∀ j, j ≠ 5 → j ≠ 8 → j ≠ 9 → h' a j = h a j) ∧ stk L i os' w' ∧ w' ≤ t ∧ (∀ j ∈ os', (t : Int) < kE L j) ∧ os'.length ≤ os.length ∧ cvW h' a L i os' w' ∧ h' a 5 + os'.length ≤ h a 5 + os.length) os h w hS (fun k _ _ _ _ => rfl) (fun j _ _ _ => rfl) hs (by have := hs.2.2.2.2 i (Nat.le_refl _) hiL; omega) hI h33 (by omega) (fun h' os' w' l1 l2 l3 l4 l5 l6 l7 l8 => ⟨rfl, os', w', l1, l2, l3, l4, l5, l6, l7, l8⟩)
    refine ⟨_, ft_enter (n := 0) rfl (Nat.le_of_ble_eq_true rfl) rfl hlv, fun h5 hw5 => ?_⟩
    obtain ⟨-, os', w', l1, l2, l3, l4, l5, l6, l7, l8⟩ := hw5
    have hS5 : setI h5 b L := setI_fr hS (fun k k1 k2 => l1 k (by omega) (by omega) (by omega) (by omega))
    have hE' : ∀ j ∈ os', (t : Int) ≤ kE L j := fun j hj => by have := l5 j hj; omega
    have hSt : ∀ j, i ≤ j → j < L.length → (t : Int) ≤ kS L j := fun j j1 j2 => by have := kS_le hL j1 j2; omega
    refine ⟨_, c_Cv_walkTo ha hb hab hS5 hLn l7 (by omega) (fun j hj => ⟨(l3.2.1 j hj).1, by have := (l3.2.1 j hj).1; omega⟩) (w' := t) l4 (by omega) (stk_hd l3 hE' hSt) (by omega), fun h6 hw6 => ?_⟩
    obtain ⟨-, k1, k2, k3, k9, k8, ko, kw, m', km, kr⟩ := hw6
    have hst := stk_go l3 l4 hE' hSt
    obtain ⟨hpar, hdep⟩ := stk_par hst hiL ht l5
    have hpush := stk_push hL hst hiL ht l5
    have hlen : (os'.length : Int) ≤ kN L i := os_len hst.2.2.2.1 (fun j hj => by
      have q1 := (List.pairwise_cons.mp hpush.2.2.2.1).1 j hj
      have q2 := (l3.2.1 j hj).1
      have q3 := kS_rng hL (show j < L.length by omega)
      exact ⟨q3.2.2.1, q1.2.2⟩) hr.2.2.1
    refine ⟨by omega, ⟨by omega, by omega⟩, fun h7 e7 => ⟨⟨by omega, by omega⟩, fun h8 e8 => ⟨⟨by omega, by omega⟩, fun h9 e9 => ?_⟩⟩⟩
    rw [hd_arr k8 ko] at e7
    have r7 : ∀ k, k ≠ a + 2 → h7 k = h6 k := fun k hk' => by rw [e7]; exact ft_hs_ne k hk'
    rw [r7 a (by omega), k8] at e8
    have r8 : ∀ k, k ≠ a + 3 → h8 k = h7 k := fun k hk' => by rw [e8]; exact ft_hs_ne k hk'
    have r9 : ∀ k, k ≠ a + 4 → h9 k = h8 k := fun k hk' => by rw [e9]; exact ft_hs_ne k hk'
    have ra : h9 a = h6 a := by rw [r9 a (by omega), r8 a (by omega), r7 a (by omega)]
    rw [ra, k8]
    refine ⟨fun c => absurd c (by omega), fun _ => ⟨⟨by omega, by omega⟩, fun h11 e11 h12 e12 h13 e13 => ?_⟩⟩
    rw [Int.toNat_natCast] at e11
    have r11 : ∀ k, k ≠ a + 1 → h11 k = h9 k := fun k hk' => by rw [e11]; exact ft_hs_ne k hk'
    rw [r11 a (by omega), ra, k8, ft_add_eq ⟨by omega, by omega⟩] at e12
    have r12 : ∀ k, k ≠ a → h12 k = h11 k := fun k hk' => by rw [e12]; exact ft_hs_ne k hk'
    have r12j : ∀ j, j ≠ 8 → h12 a j = h6 a j := fun j hj => by rw [e12, ft_hs_j hj, r11 a (by omega), ra]
    have r128 : h12 a 8 = ((os'.length + 1 : Nat) : Int) := by rw [e12, ft_hs_same]; push_cast; rfl
    have hm6 : h6 a 6 = mx (fun j => (dep L j : Int) + 1) i := by rw [k2 6 (by omega) (by omega), l2 6 (by omega) (by omega) (by omega), hmx]
    rw [r12j 6 (by omega), r128, hm6] at e13
    have r13 : ∀ k, k ≠ a → h13 k = h12 k := fun k hk' => by rw [e13]; exact ft_hs_ne k hk'
    have r13j : ∀ j, j ≠ 6 → h13 a j = h12 a j := fun j hj => by rw [e13]; exact ft_hs_j hj
    have big : ∀ k, k ≠ a → k ≠ a + 1 → k ≠ a + 2 → k ≠ a + 3 → k ≠ a + 4 → h13 k = h6 k := fun k c1 c2 c3 c4 c5 => by rw [r13 k c1, r12 k c1, r11 k c2, r9 k c5, r8 k c4, r7 k c3]
    rw [ft_add_eq ⟨by omega, by omega⟩]
    have hih := ih (i + 1) (i :: os') t h13 (by omega) (fun k hk' => by rw [big k (by omega) (by omega) (by omega) (by omega) (by omega), k1 k (by omega) (by omega) (by omega) (by omega), l1 k (by omega) (by omega) (by omega) (by omega), hf k hk']) hpush (by omega) ⟨by rw [r13j 9 (by omega), r12j 9 (by omega)]; exact k9, by rw [r13j 8 (by omega), r128, List.length_cons], fun d j hd => ?_, fun j hj => ?_, m', by rw [r13j 5 (by omega), r12j 5 (by omega)]; exact km, by rw [big (a + 5) (by omega) (by omega) (by omega) (by omega) (by omega), big (a + 6) (by omega) (by omega) (by omega) (by omega) (by omega)]; exact kr⟩ (by rw [List.length_cons]; omega) (by rw [r13j 5 (by omega), r12j 5 (by omega), List.length_cons]; push_cast; omega) (fun j hj => ?_) ?_
    · rw [show (((i + 1 : Nat) : Nat) : Int) = (i : Int) + 1 by push_cast; rfl] at hih
      exact hih
    · rw [r13 _ (by omega), r12 _ (by omega), e11]
      rw [List.reverse_cons] at hd
      by_cases c : d < os'.length
      · rw [List.getElem?_append_left (by rw [List.length_reverse]; exact c)] at hd
        rw [ft_hs_j (by omega), r9 _ (by omega), r8 _ (by omega), r7 _ (by omega)]
        exact ko d j hd
      · rw [List.getElem?_append_right (by rw [List.length_reverse]; omega), List.length_reverse] at hd
        have hd0 : d - os'.length = 0 := by
          have := (List.getElem?_eq_some_iff.mp hd).1
          rw [List.length_singleton] at this
          omega
        rw [hd0] at hd
        simp only [List.getElem?_cons_zero, Option.some.injEq] at hd
        rw [show d = os'.length by omega, ft_hs_same, hd]
    · rw [r13 _ (by omega), r12 _ (by omega), r11 _ (by omega), e9]
      by_cases c : j = i
      · subst c
        rw [ft_hs_same, cN_seg (lo := 0) (b := false) (Nat.zero_le t) (fun x a1 a2 => ?_)]
        · simp [cN]
        · refine decide_eq_false (fun q => ?_)
          have := (kIn_iff.mp (lmI_in q).2.1).1
          omega
      · rw [ft_hs_j c, r8 _ (by omega), r7 _ (by omega)]
        exact kw j (by omega)
    · rw [r13 (a + 2) (by omega), r12 (a + 2) (by omega), r11 (a + 2) (by omega), r9 (a + 2) (by omega), r8 (a + 2) (by omega), r13 (a + 3) (by omega), r12 (a + 3) (by omega), r11 (a + 3) (by omega), r9 (a + 3) (by omega), e8, e7]
      by_cases c : j = i
      · subst c
        rw [ft_hs_same, ft_hs_same, hpar, hdep]
        exact ⟨rfl, rfl⟩
      · rw [ft_hs_j c, ft_hs_j c, ft_hs_ne _ (by omega), k1 (a + 2) (by omega) (by omega) (by omega) (by omega), k1 (a + 3) (by omega) (by omega) (by omega) (by omega), l1 (a + 2) (by omega) (by omega) (by omega) (by omega), l1 (a + 3) (by omega) (by omega) (by omega) (by omega)]
        exact hpd j (by omega)
    · rw [e13, ft_hs_same, mx, hdep]
      push_cast
      rfl
theorem c_Cv_sweep {a b : Nat} (ha : ft_sh a = some (.inl 2)) (hb : ft_sh b = some (.inl 4)) (hab : b + 3 ≤ a ∨ a + 7 ≤ b) {L : List (Int × Int)} (hL : lOk L) (hLn : L.length ≤ ft_ln (a + 2)) {h : ftH} (hS : setI h b L) : ft_C k_Cv_sweep [.inr (.inr a), .inr (.inr b)] h (fun r h' => r = none ∧ (∀ k, k < a ∨ a + 7 ≤ k → h' k = h k) ∧ cvF h' a L) := by
  refine ft_enter (n := 3) rfl (Nat.le_of_ble_eq_true rfl) rfl (b_Cv_sweep_0 ha hb (fun h1 e1 h2 e2 h3 e3 h4 e4 => ?_))
  have r : ∀ k, k ≠ a → h4 k = h k := fun k hk => by rw [e4, ft_hs_ne k hk, e3, ft_hs_ne k hk, e2, ft_hs_ne k hk, e1, ft_hs_ne k hk]
  refine v_Cv_sweep ha hb hab hL hLn hS (fun h' f1 f2 => ⟨rfl, f1, f2⟩) L.length 0 [] 0 h4 (by omega) (fun k hk => r k (by omega)) ⟨Nat.zero_le _, by simp, fun j hj => absurd hj (Nat.not_lt_zero j), List.Pairwise.nil, fun j _ hj => (kS_rng hL hj).1⟩ (by omega) ⟨by rw [e4]; exact ft_hs_same, by rw [e4, ft_hs_j (by omega), e3]; exact ft_hs_same, fun d j hd => by simp at hd, fun j hj => absurd hj (Nat.not_lt_zero j), 0, by rw [e4, ft_hs_j (by omega), e3, ft_hs_j (by omega), e2, ft_hs_j (by omega), e1]; exact ft_hs_same, ⟨by simp [cN], by simp, fun q => absurd q (Nat.lt_irrefl 0), fun r hr => absurd hr (Nat.not_lt_zero r)⟩⟩ (by simp) ?_ (fun j hj => absurd hj (Nat.not_lt_zero j)) ?_
  · rw [e4, ft_hs_j (by omega), e3, ft_hs_j (by omega), e2, ft_hs_j (by omega), e1, ft_hs_same]
    simp
  · rw [e4, ft_hs_j (by omega), e3, ft_hs_j (by omega), e2, ft_hs_same]
    rfl
