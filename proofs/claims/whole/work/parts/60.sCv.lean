/-! COVER: the walk over a set -/
theorem ft_ln_cv_all : ∀ k, k < 333 → ft_sh k = some (.inl 2) → ft_ln (k + 3) = ft_ln (k + 2) ∧ ft_ln (k + 4) = ft_ln (k + 2) ∧ ft_ln (k + 5) = 2 * ft_ln (k + 2) + 1 ∧ ft_ln (k + 6) = 2 * ft_ln (k + 2) + 1 ∧ 60 ≤ ft_ln (k + 2) ∧ ft_ln (k + 2) ≤ 80 := by decide +kernel
theorem ft_ln_cv {k : Nat} (h : ft_sh k = some (.inl 2)) : ft_ln (k + 3) = ft_ln (k + 2) ∧ ft_ln (k + 4) = ft_ln (k + 2) ∧ ft_ln (k + 5) = 2 * ft_ln (k + 2) + 1 ∧ ft_ln (k + 6) = 2 * ft_ln (k + 2) + 1 ∧ 60 ≤ ft_ln (k + 2) ∧ ft_ln (k + 2) ≤ 80 := ft_ln_cv_all k (ft_sh_lt h) h
/-- the set b holds L -/
def setI (h : ftH) (b : Nat) (L : List (Int × Int)) : Prop := h b 2 = (L.length : Int) ∧ L.length ≤ ft_ln (b + 1) ∧ ∀ j, j < L.length → h (b + 1) j = kAt L j ∧ h (b + 2) j = vAt L j
theorem setI_of {h : ftH} {b : Nat} {L : List (Int × Int)} (hs : ft_ps h b) (e : ft_pl h b = L) : setI h b L := by
  have hl := pl_len e hs.1.1
  refine ⟨hl.symm, by have := hs.1.2; omega, fun j hj => ?_⟩
  have h1 := pl_at e (i := (j : Int)) (by omega) (by omega)
  rw [Int.toNat_natCast] at h1
  have := kAt_of h1
  exact ⟨this.1.symm, this.2.symm⟩
theorem setI_fr {h h' : ftH} {b : Nat} {L : List (Int × Int)} (hs : setI h b L) (f : ∀ k, b ≤ k → k < b + 3 → h' k = h k) : setI h' b L := by
  unfold setI
  rw [f b (by omega) (by omega), f (b + 1) (by omega) (by omega), f (b + 2) (by omega) (by omega)]
  exact hs
theorem setI_pl {h : ftH} {b : Nat} {L : List (Int × Int)} (hs : setI h b L) : ft_pl h b = L := by
  refine ft_pl_eq (by rw [hs.1]; omega) hs.1.symm (fun j hj => ?_)
  have hj' : j < L.length := by have := hs.1; omega
  rw [(hs.2.2 j hj').1, (hs.2.2 j hj').2]
  exact kAt_get hj'
def cvW (h : ftH) (a : Nat) (L : List (Int × Int)) (i : Nat) (os : List Nat) (w : Nat) : Prop := h a 9 = (w : Int) ∧ h a 8 = (os.length : Int) ∧ (∀ d j, os.reverse[d]? = some j → h (a + 1) d = ((j : Nat) : Int)) ∧ (∀ j : Nat, j < i → h (a + 4) j = cN (fun x => decide (lmI L x = (j : Int))) w) ∧ ∃ m : Nat, h a 5 = (m : Int) ∧ rnI (ansOf L) m (h (a + 5)) (h (a + 6)) w
theorem v_Cv_walk49 {a : Nat} (ha : ft_sh a = some (.inl 2)) {g : ftH} {A : Int → Int} {m w w' : Nat} {z : Int} (hm : g a 5 = (m : Int)) (h9 : g a 9 = (w : Int)) (hr : rnI A m (g (a + 5)) (g (a + 6)) w) (hw : w < w') (hc : ∀ x : Nat, w ≤ x → x < w' → A x = z) (hl : m < ft_ln (a + 5)) {R : Option ftV → ftH → Prop}
    (hk : ∀ (h' : ftH) (m' : Nat), (∀ k, k ≠ a → k ≠ a + 5 → k ≠ a + 6 → h' k = g k) → (∀ j, j ≠ 5 → j ≠ 9 → h' a j = g a j) → h' a 9 = (w' : Int) → h' a 5 = (m' : Int) → m' ≤ m + 1 → rnI A m' (h' (a + 5)) (h' (a + 6)) w' → R none h') :
    ft_V k_Cv_walkTo 49 [some (.inr (.inr a)), some (.inr (.inl (w' : Int))), none, none, none, some (.inl z), none] [] g R := by
  have hln := ft_ln_cv ha
  have hnew : (m = 0 ∨ g (a + 6) (m - 1) ≠ z) → ft_V k_Cv_walkTo 76 [some (.inr (.inr a)), some (.inr (.inl (w' : Int))), none, none, none, some (.inl z), none] [] g R := by
    intro hn
    refine b_Cv_walkTo_76 ha (b_Cv_walkTo_77 ha ⟨fun c => absurd rfl c, fun _ => ⟨fun c => absurd c (by omega), fun c => ⟨⟨by omega, by omega⟩, fun h1 e1 => ?_⟩⟩⟩)
    have q1 : h1 a = g a := by rw [e1]; exact ft_hs_ne a (by omega)
    refine ⟨⟨by rw [q1]; omega, by rw [q1]; omega⟩, fun h2 e2 h3 e3 => b_Cv_walkTo_130 ha (fun h4 e4 => ?_)⟩
    have q2 : h2 a = g a := by rw [e2, ft_hs_ne a (by omega), q1]
    have hm2 : (g a 5).toNat = m := by omega
    rw [q2, hm, ft_add_eq ⟨by omega, by omega⟩] at e3
    rw [q1, hm2] at e2
    rw [hm2, h9] at e1
    have p5 : h4 (a + 5) = h1 (a + 5) := by rw [e4, ft_hs_ne _ (by omega), e3, ft_hs_ne _ (by omega), e2, ft_hs_ne _ (by omega)]
    have p6 : h4 (a + 6) = h2 (a + 6) := by rw [e4, ft_hs_ne _ (by omega), e3, ft_hs_ne _ (by omega)]
    refine hk h4 (m + 1) (fun k k1 k2 k3 => ?_) (fun j j1 j2 => ?_) ?_ ?_ (Nat.le_refl _) (rn_new hr hw hc hn (fun r hr' => ?_) (fun r hr' => ?_) ?_ ?_)
    · rw [e4, ft_hs_ne k k1, e3, ft_hs_ne k k1, e2, ft_hs_ne k k3, e1, ft_hs_ne k k2]
    · rw [e4, ft_hs_j j2, e3, ft_hs_j j1, q2]
    · rw [e4]; exact ft_hs_same
    · rw [e4, ft_hs_j (by omega), e3, ft_hs_same]; push_cast; rfl
    · rw [p5, e1, ft_hs_j (by omega)]
    · rw [p6, e2, ft_hs_j (by omega), e1, ft_hs_ne _ (by omega)]
    · rw [p5, e1]; exact ft_hs_same
    · rw [p6, e2]; exact ft_hs_same
  refine b_Cv_walkTo_49 ha ⟨fun c => hnew (Or.inl (by omega)), fun c => ?_⟩
  rw [hm, ft_sub_eq ⟨by omega, by omega⟩, show ((m : Int) - 1).toNat = m - 1 by omega]
  refine ⟨⟨by omega, by omega⟩, fun d => hnew (Or.inr d), fun d => b_Cv_walkTo_77 ha ⟨fun _ => b_Cv_walkTo_130 ha (fun h4 e4 => ?_), fun q => absurd q (by omega)⟩⟩
  have hr2 := rn_on hr hw hc (by omega) d
  refine hk h4 m (fun k k1 k2 k3 => by rw [e4, ft_hs_ne k k1]) (fun j j1 j2 => by rw [e4, ft_hs_j j2]) (by rw [e4]; exact ft_hs_same) (by rw [e4, ft_hs_j (by omega), hm]) (by omega) ?_
  rw [e4, ft_hs_ne _ (by omega), ft_hs_ne _ (by omega)]
  exact hr2
theorem hd_arr {h : ftH} {a : Nat} {os : List Nat} (h8 : h a 8 = (os.length : Int)) (ho : ∀ d j, os.reverse[d]? = some j → h (a + 1) d = ((j : Nat) : Int)) : (if 0 < h a 8 then h (a + 1) (h a 8 - 1).toNat else (-1)) = hdI os := by
  cases os with
  | nil => rw [if_neg (by rw [h8]; simp)]; rfl
  | cons j os =>
    rw [List.length_cons] at h8
    rw [if_pos (by omega), show (h a 8 - 1).toNat = os.length by omega]
    refine ho os.length j ?_
    rw [List.reverse_cons, List.getElem?_append_right (by rw [List.length_reverse]; exact Nat.le_refl _), List.length_reverse, Nat.sub_self]
    rfl
theorem c_Cv_walkTo {a b : Nat} (ha : ft_sh a = some (.inl 2)) (hb : ft_sh b = some (.inl 4)) (hab : b + 3 ≤ a ∨ a + 7 ≤ b) {h : ftH} {L : List (Int × Int)} (hS : setI h b L) (hLn : L.length ≤ ft_ln (a + 2)) {i w w' : Nat} {os : List Nat} (hI : cvW h a L i os w) (h33 : os.length ≤ 33) (hin : ∀ j ∈ os, j < i ∧ j < L.length) (hw : w ≤ w') (h32 : w' ≤ 4294967296) (hc : ∀ x : Nat, w ≤ x → x < w' → lmI L (x : Int) = hdI os) (room : h a 5 < ft_ln (a + 5)) :
    ft_C k_Cv_walkTo [.inr (.inr a), .inr (.inl (w' : Int)), .inr (.inr b)] h (fun r h' => r = none ∧ (∀ k, k ≠ a → k ≠ a + 4 → k ≠ a + 5 → k ≠ a + 6 → h' k = h k) ∧ (∀ j, j ≠ 5 → j ≠ 9 → h' a j = h a j) ∧ h' a 5 ≤ h a 5 + 1 ∧ cvW h' a L i os w') := by
  obtain ⟨g9, g8, go, gw, m, gm, gr⟩ := hI
  have hln := ft_ln_cv ha
  have hlb := ft_ln_ps hb
  have hhd := hd_arr g8 go
  refine ft_enter (n := 3) rfl (Nat.le_of_ble_eq_true rfl) rfl (b_Cv_walkTo_0 ha hb ⟨fun c => ⟨by omega, fun n3 e3 => ?_⟩, fun c => ?_⟩)
  · rw [hhd] at e3
    have hww : w < w' := by omega
    have hsegc : ∀ j : Nat, hdI os ≠ (j : Int) → cN (fun x => decide (lmI L x = (j : Int))) w' = cN (fun x => decide (lmI L x = (j : Int))) w := fun j hj => by
      rw [cN_seg (b := false) hw (fun x a1 a2 => by rw [hc x a1 a2]; exact decide_eq_false hj)]
      simp
    refine ⟨fun d => ?_, fun d => ?_⟩
    · have eno : hdI os = -1 := by
        cases os with
        | nil => rfl
        | cons j os => rw [hdI] at e3; omega
      refine v_Cv_walk49 ha gm g9 gr hww (fun x a1 a2 => by rw [ansOf_lmI, hc x a1 a2, eno, if_neg (by omega)]) (by omega) (fun h' m' f1 f2 f3 f4 f5 f6 => ?_)
      refine ⟨rfl, fun k k1 k2 k3 k4 => f1 k k1 k3 k4, f2, by omega, f3, by rw [f2 8 (by omega) (by omega)]; exact g8, fun d j hd => by rw [f1 _ (by omega) (by omega) (by omega)]; exact go d j hd, fun j hj => ?_, m', f4, f6⟩
      rw [f1 _ (by omega) (by omega) (by omega), gw j hj, hsegc j (by omega)]
    · cases os with
      | nil => rw [hdI] at e3; omega
      | cons p os =>
        rw [hdI] at e3
        have hp := hin p List.mem_cons_self
        have hSp := hS.2.2 p hp.2
        have e3n : n3.toNat = p := by omega
        rw [e3n]
        refine ⟨⟨by omega, by have := hS.2.1; omega⟩, fun n4 e4 => ⟨⟨by omega, by omega⟩, ⟨by omega, by omega⟩, fun h1 e1 => ?_⟩⟩
        rw [hSp.2] at e4
        have hcn := gw p hp.1
        have hrg := cN_rng (fun x => decide (lmI L x = (p : Int))) w
        rw [g9, ft_subL_eq ⟨by omega, by omega⟩, hcn, ft_addL_eq ⟨by omega, by omega⟩] at e1
        have qa : h1 a = h a := by rw [e1]; exact ft_hs_ne a (by omega)
        have q5 : h1 (a + 5) = h (a + 5) := by rw [e1]; exact ft_hs_ne _ (by omega)
        have q6 : h1 (a + 6) = h (a + 6) := by rw [e1]; exact ft_hs_ne _ (by omega)
        refine v_Cv_walk49 ha (by rw [qa]; exact gm) (by rw [qa]; exact g9) (by rw [q5, q6]; exact gr) hww (fun x a1 a2 => by rw [ansOf_lmI, hc x a1 a2, hdI, if_pos (by omega), Int.toNat_natCast, ← e4]) (by omega) (fun h' m' f1 f2 f3 f4 f5 f6 => ?_)
        refine ⟨rfl, fun k k1 k2 k3 k4 => by rw [f1 k k1 k3 k4, e1, ft_hs_ne k k2], fun j j1 j2 => by rw [f2 j j1 j2, qa], by omega, f3, by rw [f2 8 (by omega) (by omega), qa]; exact g8, fun d j hd => by rw [f1 _ (by omega) (by omega) (by omega), e1, ft_hs_ne _ (by omega)]; exact go d j hd, fun j hj => ?_, m', f4, f6⟩
        rw [f1 _ (by omega) (by omega) (by omega), e1]
        by_cases ej : j = p
        · subst ej
          rw [ft_hs_same, cN_seg (b := true) hw (fun x a1 a2 => by rw [hc x a1 a2, hdI]; exact decide_eq_true rfl)]
          simp
        · rw [ft_hs_j ej, gw j hj, hsegc j (by rw [hdI]; omega)]
  · have e : w' = w := by omega
    subst e
    exact ⟨rfl, fun k _ _ _ _ => rfl, fun j _ _ => rfl, by omega, g9, g8, go, gw, m, gm, gr⟩
