/-! THE ROWS OF THE CHOICE -/
theorem bD_lt : ∀ (D : List (Nat × Bool)), bD D < 2 ^ 60
  | [] => by decide
  | x :: D => by
    rw [bD]
    refine Nat.or_lt_two_pow ?_ (bD_lt D)
    split
    · exact Nat.pow_lt_pow_right (by omega) (by omega)
    · decide
theorem bst_lt {ht : Nat → Int} {P : List (Nat × Bool) → Prop} {H B : Int} (h : bst ht P H B) (hU : ∀ D, P D → hD ht D ≤ 40000000) : H ≤ 40000000 ∧ B < 1152921504606846976 := by
  rcases h with ⟨h1, h2, -⟩ | ⟨D, h1, h2, h3, -⟩
  · omega
  · have := bD_lt D
    have := hU D h1
    omega
theorem bst_keep {ht : Nat → Int} (hn : ∀ i, 0 ≤ ht i) {P : List (Nat × Bool) → Prop} {A : List Nat} (hA : ∀ D, P D → D.map (fun x => x.1) = A) {i : Nat} (hi : i ∉ A) (hi60 : i < 60) (h1 : ∀ x ∈ A, x < 60) {H B : Int} (h : bst ht P H B) : (H < 0 → ∀ D, ¬ ∃ D2, P D2 ∧ D = (i, true) :: D2) ∧ (0 ≤ H → bst ht (fun D => ∃ D2, P D2 ∧ D = (i, true) :: D2) (H + ht i) ((B.toNat ||| 2 ^ (59 - i) : Nat) : Int)) := by
  have hq : bst ht (fun D => D = [(i, true)]) (ht i) ((2 ^ (59 - i) : Nat) : Int) := Or.inr ⟨_, rfl, by simp [hD], by simp [bD], fun D' q => by rw [q]; exact Or.inr ⟨rfl, Nat.le_refl _⟩⟩
  have hp := bst_pair hn hA (C := [i]) (fun D q => by rw [q]; rfl) (fun x q => by
    have := List.mem_singleton.mp q.1
    subst this
    exact hi q.2) h1 (fun x hx => by rw [List.mem_singleton.mp hx]; exact hi60) h hq
  refine ⟨fun c D => ?_, fun c => ?_⟩
  · rintro ⟨D2, q1, q2⟩
    exact hp.1 (Or.inl c) D ⟨D2, _, q1, rfl, q2⟩
  · have := hp.2 c (hn i)
    rw [Int.toNat_natCast] at this
    refine bst_congr (fun D => ?_) this
    constructor
    · rintro ⟨D1, D2, q1, q2, q3⟩
      rw [q2] at q3
      exact ⟨D1, q1, q3⟩
    · rintro ⟨D2, q1, q2⟩
      exact ⟨D2, _, q1, rfl, q2⟩
theorem bst_drop {ht : Nat → Int} {P : List (Nat × Bool) → Prop} {i : Nat} {H B : Int} (h : bst ht P H B) : bst ht (fun D => ∃ D2, P D2 ∧ D = (i, false) :: D2) H B := by
  have e : ∀ D2 : List (Nat × Bool), hD ht ((i, false) :: D2) = hD ht D2 ∧ bD ((i, false) :: D2) = bD D2 := fun D2 => by
    constructor
    · unfold hD
      rw [List.map_cons, List.sum_cons]
      simp
    · rw [bD]
      simp
  rcases h with ⟨h1, h2, h3⟩ | ⟨D, h1, h2, h3, h4⟩
  · refine Or.inl ⟨h1, h2, fun D => ?_⟩
    rintro ⟨D2, q1, -⟩
    exact h3 D2 q1
  · refine Or.inr ⟨_, ⟨D, h1, rfl⟩, by rw [(e D).1]; exact h2, by rw [(e D).2]; exact h3, ?_⟩
    rintro D' ⟨D2, q1, rfl⟩
    rw [(e D).1, (e D).2, (e D2).1, (e D2).2]
    exact h4 D2 q1
theorem or_Nat {B : Int} {b : Nat} (h0 : 0 ≤ B) (h1 : B < 1152921504606846976) (h2 : b < 2 ^ 60) : ft_orL B (b : Int) = ((B.toNat ||| b : Nat) : Int) := by
  rw [ft_orL_nat h0 ⟨by omega, by omega⟩ (by omega) ⟨by omega, by omega⟩, Int.toNat_natCast]
theorem ln_rows : ∀ r, r < 68 → ft_ln (149 + r) = 61 ∧ ft_ln (218 + r) = 61 := by decide +kernel
theorem sha_217r {r : Nat} (h : r < 68) : ft_sh (218 + r) = some (.inr (1, ft_ln (218 + r))) := by
  have : ∀ i, i < 68 → ft_sh (218 + i) = some (.inr (1, ft_ln (218 + i))) := by decide +kernel
  exact this r h
/-- one entry, kept or not -/
def oneK (P1 P0 : Nat → List (Nat × Bool) → Prop) (i k p : Nat) (D : List (Nat × Bool)) : Prop := (∃ q D2, P1 q D2 ∧ p = q + 1 ∧ D = (i, true) :: D2) ∨ ∃ q D2, P0 q D2 ∧ p = q + k ∧ D = (i, false) :: D2
theorem v_Ch_weighOne {ht : Nat → Int} (hn : ∀ i, 0 ≤ ht i) {P1 P0 : Nat → List (Nat × Bool) → Prop} {A : List Nat} {i k ins M : Nat} (hk1 : k ≤ 1) (hi60 : i < 60) (hA1 : ∀ p D, P1 p D → D.map (fun x => x.1) = A) (hiA : i ∉ A) (hA60 : ∀ x ∈ A, x < 60) (hM1 : ∀ p D, P1 p D → p ≤ M) (hM0 : ∀ p D, P0 p D → p ≤ M) (hM : M + 1 ≤ 60) (hins : ins < 34) (hU1 : ∀ p D, P1 p D → hD ht D ≤ 40000000) (hti : ht i ≤ 40000000) {h0 : ftH} (h44 : h0 144 i = ht i) (r1 : ∀ p, p ≤ M → bst ht (P1 p) (h0 (149 + (2 * ins + 1)) p) (h0 (218 + (2 * ins + 1)) p)) (r0 : ∀ p, p ≤ M → bst ht (P0 p) (h0 (149 + 2 * ins) p) (h0 (218 + 2 * ins) p)) {R : Option ftV → ftH → Prop}
    (hk : ∀ h : ftH, (∀ p, p ≤ M + 1 → bst ht (oneK P1 P0 i k p) (h 287 p) (h 288 p)) → (∀ c, c ≠ 287 → c ≠ 288 → h c = h0 c) → R none h) :
    ∀ (m p : Nat) (h : ftH), p + m = M + 2 → (∀ c, c ≠ 287 → c ≠ 288 → h c = h0 c) → (∀ q, q < p → bst ht (oneK P1 P0 i k q) (h 287 q) (h 288 q)) → ft_V k_Ch_weighOne 43 [some (.inr (.inr 143)), some (.inl (i : Int)), some (.inl (ins : Int)), some (.inl (k : Int)), some (.inl (M : Int)), some (.inr (.inr (149 + (2 * ins + 1)))), some (.inr (.inr (149 + 2 * ins))), some (.inr (.inr (218 + 2 * ins))), some (.inl (p : Int)), none, none, none, none] [] h R := by
  have s5 := sha_148_all (2 * ins + 1) (by omega)
  have s6 := sha_148_all (2 * ins) (by omega)
  have s7 := sha_217r (show 2 * ins < 68 by omega)
  have l1 := ln_rows (2 * ins + 1) (by omega)
  have l0 := ln_rows (2 * ins) (by omega)
  intro m
  induction m with
  | zero =>
    intro p h hm f hq
    refine b_Ch_weighOne_43 s5 s6 s7 ⟨fun _ => hk h (fun q hq' => hq q (by omega)) f, fun c => absurd (by rw [ft_add_eq ⟨by omega, by omega⟩]; omega) c⟩
  | succ m ih =>
    intro p h hm f hq
    have fin : ∀ (H B : Int), bst ht (oneK P1 P0 i k p) H B → ft_V k_Ch_weighOne 170 [some (.inr (.inr 143)), some (.inl (i : Int)), some (.inl (ins : Int)), some (.inl (k : Int)), some (.inl (M : Int)), some (.inr (.inr (149 + (2 * ins + 1)))), some (.inr (.inr (149 + 2 * ins))), some (.inr (.inr (218 + 2 * ins))), some (.inl (p : Int)), some (.inl H), some (.inr (.inl B)), none, none] [] h R := by
      intro H B hb
      refine b_Ch_weighOne_170 s5 s6 s7 ⟨⟨by omega, by omega⟩, fun h1 e1 => ⟨⟨by omega, by omega⟩, fun h2 e2 => ?_⟩⟩
      rw [Int.toNat_natCast] at e1 e2
      rw [inc1 (by omega)]
      refine ih (p + 1) h2 (by omega) (fun c c1 c2 => by rw [e2, ft_hs_ne c c2, e1, ft_hs_ne c c1, f c c1 c2]) (fun q hq' => ?_)
      have e87 : h2 287 q = h1 287 q := by rw [e2, ft_hs_ne 287 (by omega)]
      by_cases c : q = p
      · subst c
        rw [e87, e1, ft_hs_same, e2, ft_hs_same]
        exact hb
      · rw [e87, e1, ft_hs_j c, e2, ft_hs_j c, e1, ft_hs_ne 288 (by omega)]
        exact hq q (by omega)
    have mid : ∀ (H B : Int), bst ht (fun D => ∃ q D2, P1 q D2 ∧ p = q + 1 ∧ D = (i, true) :: D2) H B → ft_V k_Ch_weighOne 118 [some (.inr (.inr 143)), some (.inl (i : Int)), some (.inl (ins : Int)), some (.inl (k : Int)), some (.inl (M : Int)), some (.inr (.inr (149 + (2 * ins + 1)))), some (.inr (.inr (149 + 2 * ins))), some (.inr (.inr (218 + 2 * ins))), some (.inl (p : Int)), some (.inl H), some (.inr (.inl B)), none, none] [] h R := by
      intro H B hb
      have none0 : (∀ q D2, P0 q D2 → p ≠ q + k) → bst ht (oneK P1 P0 i k p) H B := fun hno => by
        refine bst_congr (fun D => ?_) hb
        constructor
        · intro q; exact Or.inl q
        · rintro (q | ⟨q, D2, q1, q2, -⟩)
          · exact q
          · exact absurd q2 (hno q D2 q1)
      refine b_Ch_weighOne_118 s5 s6 s7 (fun n1 e1 => ?_)
      rw [ft_sub_eq ⟨by omega, by omega⟩] at e1
      refine ⟨fun c => fin H B (none0 (fun q D2 q1 q2 => by omega)), fun c => ⟨fun d => fin H B (none0 (fun q D2 q1 q2 => by have := hM0 q D2 q1; omega)), fun d => ?_⟩⟩
      obtain ⟨x, rfl⟩ := Int.eq_ofNat_of_zero_le (show 0 ≤ n1 by omega)
      have hx : p = x + k := by omega
      have hr := r0 x (by omega)
      rw [Int.toNat_natCast, f (149 + 2 * ins) (by omega) (by omega), f (218 + 2 * ins) (by omega) (by omega)]
      have hb0 : bst ht (fun D => ∃ q D2, P0 q D2 ∧ p = q + k ∧ D = (i, false) :: D2) (h0 (149 + 2 * ins) x) (h0 (218 + 2 * ins) x) := by
        refine bst_congr (fun D => ?_) (bst_drop (i := i) hr)
        constructor
        · rintro ⟨D2, q1, q2⟩
          exact ⟨x, D2, q1, hx, q2⟩
        · rintro ⟨q, D2, q1, q2, q3⟩
          have : q = x := by omega
          subst this
          exact ⟨D2, q1, q3⟩
      have hor := bst_or hn hb hb0
      refine ⟨⟨by omega, by omega⟩, ⟨by omega, by omega⟩, fun c2 => fin H B (hor.2 c2), fun c2 => ⟨⟨by omega, by omega⟩, fun n4 e4 => ⟨⟨by omega, by omega⟩, fun n5 e5 => ?_⟩⟩⟩
      rw [e4, e5]
      exact fin _ _ (hor.1 c2)
    have nokeep : (∀ q D2, P1 q D2 → p ≠ q + 1) → bst ht (fun D => ∃ q D2, P1 q D2 ∧ p = q + 1 ∧ D = (i, true) :: D2) (-1) 0 := fun hno => Or.inl ⟨rfl, rfl, fun D => by
      rintro ⟨q, D2, q1, q2, -⟩
      exact hno q D2 q1 q2⟩
    refine b_Ch_weighOne_43 s5 s6 s7 ⟨fun c => absurd c (by rw [ft_add_eq ⟨by omega, by omega⟩]; omega), fun _ => ⟨fun c => absurd c (by omega), fun _ n1 e1 => ?_⟩⟩
    rw [e1]
    refine ⟨fun c => mid _ _ (nokeep (fun q D2 q1 q2 => by omega)), fun c => ?_⟩
    obtain ⟨x, hx⟩ : ∃ x, p = x + 1 := ⟨p - 1, by omega⟩
    have es : ft_sub (p : Int) 1 = (x : Int) := by rw [ft_sub_eq ⟨by omega, by omega⟩]; omega
    have em : ft_add (ft_mul 2 (ins : Int)) 1 = ((2 * ins + 1 : Nat) : Int) := by
      rw [ft_mul_eq ⟨by omega, by omega⟩, ft_add_eq ⟨by omega, by omega⟩]
      push_cast
      rfl
    rw [es, em, Int.toNat_natCast, Int.toNat_natCast, Int.toNat_natCast, f (149 + (2 * ins + 1)) (by omega) (by omega), f 144 (by omega) (by omega), h44, f (218 + (2 * ins + 1)) (by omega) (by omega)]
    clear es em
    have hr := r1 x (by omega)
    have hkp := bst_keep hn (hA1 x) hiA hi60 hA60 hr
    have hlt := bst_lt hr (hU1 x)
    have hrg := bst_rng hn hr
    refine ⟨⟨by omega, by omega⟩, fun d => mid _ _ (nokeep (fun q D2 q1 q2 => ?_)), fun d => ⟨⟨by omega, by omega⟩, ⟨by omega, by omega⟩, fun n2 e2 => ⟨⟨by omega, by omega⟩, ⟨by omega, by omega⟩, ⟨by omega, by omega⟩, fun n6 e6 => ?_⟩⟩⟩
    · have : q = x := by omega
      subst this
      exact hkp.1 d _ ⟨D2, q1, rfl⟩
    · have hti0 := hn i
      rw [ft_add_eq ⟨by omega, by omega⟩] at e2
      have hpw : (2 : Nat) ^ (59 - i) < 2 ^ 60 := Nat.pow_lt_pow_right (by omega) (by omega)
      have e6 : n6 = (((h0 (218 + (2 * ins + 1)) x).toNat ||| 2 ^ (59 - i) : Nat) : Int) := by
        rw [e6, ← or_Nat hrg.2 hlt.2 hpw]
        push_cast
        rfl
      rw [e2, e6]
      refine mid _ _ (bst_congr (fun D => ?_) (hkp.2 (by omega)))
      constructor
      · rintro ⟨D2, q1, q2⟩
        exact ⟨x, D2, q1, hx, q2⟩
      · rintro ⟨q, D2, q1, q2, q3⟩
        have : q = x := by omega
        subst this
        exact ⟨D2, q1, q3⟩
theorem c_Ch_weighOne {ht : Nat → Int} (hn : ∀ i, 0 ≤ ht i) {P1 P0 : Nat → List (Nat × Bool) → Prop} {A : List Nat} {i k ins M : Nat} (hk1 : k ≤ 1) (hi60 : i < 60) (hA1 : ∀ p D, P1 p D → D.map (fun x => x.1) = A) (hiA : i ∉ A) (hA60 : ∀ x ∈ A, x < 60) (hM1 : ∀ p D, P1 p D → p ≤ M) (hM0 : ∀ p D, P0 p D → p ≤ M) (hM : M + 1 ≤ 60) (hins : ins < 34) (hU1 : ∀ p D, P1 p D → hD ht D ≤ 40000000) (hti : ht i ≤ 40000000) {h : ftH} (h44 : h 144 i = ht i) (h86 : h 286 ins = (M : Int)) (r1 : ∀ p, p ≤ M → bst ht (P1 p) (h (149 + (2 * ins + 1)) p) (h (218 + (2 * ins + 1)) p)) (r0 : ∀ p, p ≤ M → bst ht (P0 p) (h (149 + 2 * ins) p) (h (218 + 2 * ins) p)) : ft_C k_Ch_weighOne [.inr (.inr 143), .inl (i : Int), .inl (ins : Int), .inl (k : Int)] h (fun r h' => r = none ∧ (∀ p, p ≤ M + 1 → bst ht (oneK P1 P0 i k p) (h' 287 p) (h' 288 p)) ∧ ∀ c, c ≠ 287 → c ≠ 288 → h' c = h c) := by
  refine ft_enter (n := 9) rfl (Nat.le_of_ble_eq_true rfl) rfl (b_Ch_weighOne_0 ⟨⟨by omega, by omega⟩, fun n1 e1 => ?_⟩)
  rw [Int.toNat_natCast, h86] at e1
  have em0 : ft_mul 2 (ins : Int) = ((2 * ins : Nat) : Int) := by rw [ft_mul_eq ⟨by omega, by omega⟩]; push_cast; rfl
  rw [em0, inc1 (by omega), Int.toNat_natCast, Int.toNat_natCast, e1]
  clear em0
  exact ⟨⟨by omega, by omega⟩, ⟨by omega, by omega⟩, ⟨by omega, by omega⟩, v_Ch_weighOne hn hk1 hi60 hA1 hiA hA60 hM1 hM0 hM hins hU1 hti h44 r1 r0 (fun g k1 k2 => ⟨rfl, k1, k2⟩) (M + 2) 0 h (by omega) (fun c _ _ => rfl) (fun q hq => absurd hq (Nat.not_lt_zero q))⟩
/-- two sets of choices together -/
def pairK (T1 T2 : Nat → List (Nat × Bool) → Prop) (p : Nat) (D : List (Nat × Bool)) : Prop := ∃ p1 D1 p2 D2, T1 p1 D1 ∧ T2 p2 D2 ∧ p = p1 + p2 ∧ D = D2 ++ D1
theorem v_Ch_join73 {ht : Nat → Int} (hn : ∀ i, 0 ≤ ht i) {T1 T2 : Nat → List (Nat × Bool) → Prop} {A C : List Nat} (hA : ∀ p D, T1 p D → D.map (fun x => x.1) = A) (hC : ∀ p D, T2 p D → D.map (fun x => x.1) = C) (hx : ∀ x, ¬ (x ∈ C ∧ x ∈ A)) (hA60 : ∀ x ∈ A, x < 60) (hC60 : ∀ x ∈ C, x < 60) {M1 M2 : Nat} (hM1 : ∀ p D, T1 p D → p ≤ M1) (hM2 : ∀ p D, T2 p D → p ≤ M2) (hM : M1 + M2 ≤ 60) (hU1 : ∀ p D, T1 p D → hD ht D ≤ 40000000) (hU2 : ∀ p D, T2 p D → hD ht D ≤ 40000000) {r : Nat} (hr : r < 68) {h : ftH} {p : Nat} (hp : p ≤ M1 + M2) (g1 : ∀ q, q ≤ M1 → q ≤ p → bst ht (T1 q) (h (149 + r) q) (h (218 + r) q)) (g2 : ∀ q, q ≤ M2 → bst ht (T2 q) (h 287 q) (h 288 q)) {R : Option ftV → ftH → Prop}
    (hk : ∀ (H B : Int) (h1 h2 : ftH), bst ht (pairK T1 T2 p) H B → h1 = ft_hs h (149 + r) p H → h2 = ft_hs h1 (218 + r) p B → ft_V k_Ch_join 43 [some (.inr (.inr 143)), none, none, some (.inl (M2 : Int)), some (.inr (.inr (149 + r))), some (.inr (.inr (218 + r))), some (.inl (M1 : Int)), some (.inl (ft_add (p : Int) (-1))), none, none, none, none, none, none, none, none, none] [] h2 R) :
    ∀ (m y : Nat) (H B : Int), y + m = min p M2 + 1 → p - M1 ≤ y → bst ht (fun D => ∃ q, p - M1 ≤ q ∧ q < y ∧ ∃ D1 D2, T1 (p - q) D1 ∧ T2 q D2 ∧ D = D2 ++ D1) H B → ft_V k_Ch_join 73 [some (.inr (.inr 143)), none, none, some (.inl (M2 : Int)), some (.inr (.inr (149 + r))), some (.inr (.inr (218 + r))), some (.inl (M1 : Int)), some (.inl (p : Int)), some (.inl H), some (.inr (.inl B)), none, some (.inl (min (p : Int) (M2 : Int))), some (.inl (y : Int)), none, none, none, none] [] h R := by
  have s4 := sha_148_all r hr
  have s5 := sha_217r hr
  have ll := ln_rows r hr
  intro m
  induction m with
  | zero =>
    intro y H B hm hy hb
    refine b_Ch_join_73 s4 s5 ⟨fun _ => ⟨⟨by omega, by omega⟩, fun h1 e1 => ⟨⟨by omega, by omega⟩, fun h2 e2 => hk H B h1 h2 ?_ e1 e2⟩⟩, fun c => absurd (by omega) c⟩
    refine bst_congr (fun D => ?_) hb
    constructor
    · rintro ⟨q, q1, q2, D1, D2, a1, a2, a3⟩
      exact ⟨p - q, D1, q, D2, a1, a2, by omega, a3⟩
    · rintro ⟨p1, D1, p2, D2, a1, a2, a3, a4⟩
      have b1 := hM1 p1 D1 a1
      have b2 := hM2 p2 D2 a2
      refine ⟨p2, by omega, by omega, D1, D2, ?_, a2, a4⟩
      rw [show p - p2 = p1 by omega]
      exact a1
  | succ m ih =>
    intro y H B hm hy hb
    have r1 := g1 (p - y) (by omega) (by omega)
    have r2 := g2 y (by omega)
    have hpr := bst_pair hn (hA (p - y)) (hC y) hx hA60 hC60 r1 r2
    have lt1 := bst_lt r1 (hU1 _)
    have lt2 := bst_lt r2 (hU2 _)
    have rg1 := bst_rng hn r1
    have rg2 := bst_rng hn r2
    have skip : (h (149 + r) (p - y) < 0 ∨ h 287 y < 0) → ft_V k_Ch_join 73 [some (.inr (.inr 143)), none, none, some (.inl (M2 : Int)), some (.inr (.inr (149 + r))), some (.inr (.inr (218 + r))), some (.inl (M1 : Int)), some (.inl (p : Int)), some (.inl H), some (.inr (.inl B)), none, some (.inl (min (p : Int) (M2 : Int))), some (.inl (ft_add (y : Int) 1)), none, none, none, none] [] h R := by
      intro hneg
      rw [inc1 (by omega)]
      refine ih (y + 1) H B (by omega) (by omega) (bst_congr (fun D => ?_) hb)
      constructor
      · rintro ⟨q, q1, q2, q3⟩
        exact ⟨q, q1, by omega, q3⟩
      · rintro ⟨q, q1, q2, D1, D2, a1, a2, a3⟩
        by_cases e : q = y
        · subst e
          exact absurd ⟨D1, D2, a1, a2, a3⟩ (hpr.1 hneg D)
        · exact ⟨q, q1, by omega, D1, D2, a1, a2, a3⟩
    have step : ∀ H' B' : Int, bst ht (fun D => (∃ q, p - M1 ≤ q ∧ q < y ∧ ∃ D1 D2, T1 (p - q) D1 ∧ T2 q D2 ∧ D = D2 ++ D1) ∨ ∃ D1 D2, T1 (p - y) D1 ∧ T2 y D2 ∧ D = D2 ++ D1) H' B' → ft_V k_Ch_join 73 [some (.inr (.inr 143)), none, none, some (.inl (M2 : Int)), some (.inr (.inr (149 + r))), some (.inr (.inr (218 + r))), some (.inl (M1 : Int)), some (.inl (p : Int)), some (.inl H'), some (.inr (.inl B')), none, some (.inl (min (p : Int) (M2 : Int))), some (.inl (ft_add (y : Int) 1)), none, none, none, none] [] h R := by
      intro H' B' hb'
      rw [inc1 (by omega)]
      refine ih (y + 1) H' B' (by omega) (by omega) (bst_congr (fun D => ?_) hb')
      constructor
      · rintro (⟨q, q1, q2, q3⟩ | q3)
        · exact ⟨q, q1, by omega, q3⟩
        · exact ⟨y, by omega, by omega, q3⟩
      · rintro ⟨q, q1, q2, q3⟩
        by_cases e : q = y
        · subst e
          exact Or.inr q3
        · exact Or.inl ⟨q, q1, by omega, q3⟩
    refine b_Ch_join_73 s4 s5 ⟨fun c => absurd c (by omega), fun _ n1 e1 => ?_⟩
    rw [ft_sub_eq ⟨by omega, by omega⟩] at e1
    have e1n : n1.toNat = p - y := by omega
    rw [Int.toNat_natCast, e1n]
    refine ⟨⟨by omega, by omega⟩, fun c => skip (Or.inr c), fun c => ⟨⟨by omega, by omega⟩, fun d => ⟨⟨by omega, by omega⟩, ⟨by omega, by omega⟩, fun n2 e2 => ⟨⟨by omega, by omega⟩, ⟨by omega, by omega⟩, fun n3 e3 => ?_⟩⟩, fun d => skip (Or.inl (by omega))⟩⟩
    rw [ft_add_eq ⟨by omega, by omega⟩] at e2
    have hpb := hpr.2 d (by omega)
    have e3 : n3 = (((h (218 + r) (p - y)).toNat ||| (h 288 y).toNat : Nat) : Int) := by
      rw [e3, ← or_Nat rg1.2 lt1.2 (show (h 288 y).toNat < 2 ^ 60 by omega), show ((h 288 y).toNat : Int) = h 288 y by omega]
    rw [← e2, ← e3] at hpb
    have hor := bst_or hn hb hpb
    exact ⟨fun q => step H B (hor.2 q), fun q => step n2 n3 (hor.1 q)⟩
theorem decr {p : Nat} (h : p < 100000) : ft_add (p : Int) (-1) = (p : Int) - 1 := by
  rw [ft_add_eq ⟨by omega, by omega⟩]
  omega
theorem v_Ch_join43 {ht : Nat → Int} (hn : ∀ i, 0 ≤ ht i) {T1 T2 : Nat → List (Nat × Bool) → Prop} {A C : List Nat} (hA : ∀ p D, T1 p D → D.map (fun x => x.1) = A) (hC : ∀ p D, T2 p D → D.map (fun x => x.1) = C) (hx : ∀ x, ¬ (x ∈ C ∧ x ∈ A)) (hA60 : ∀ x ∈ A, x < 60) (hC60 : ∀ x ∈ C, x < 60) {M1 M2 : Nat} (hM1 : ∀ p D, T1 p D → p ≤ M1) (hM2 : ∀ p D, T2 p D → p ≤ M2) (hM : M1 + M2 ≤ 60) (hU1 : ∀ p D, T1 p D → hD ht D ≤ 40000000) (hU2 : ∀ p D, T2 p D → hD ht D ≤ 40000000) {r : Nat} (hr : r < 68) {h0 : ftH} (g1 : ∀ q, q ≤ M1 → bst ht (T1 q) (h0 (149 + r) q) (h0 (218 + r) q)) (g2 : ∀ q, q ≤ M2 → bst ht (T2 q) (h0 287 q) (h0 288 q)) {R : Option ftV → ftH → Prop}
    (hk : ∀ h : ftH, (∀ q, q ≤ M1 + M2 → bst ht (pairK T1 T2 q) (h (149 + r) q) (h (218 + r) q)) → (∀ c, c ≠ 149 + r → c ≠ 218 + r → h c = h0 c) → R none h) :
    ∀ (p : Nat) (h : ftH), p ≤ M1 + M2 + 1 → (∀ c, c ≠ 149 + r → c ≠ 218 + r → h c = h0 c) → (∀ q, q < p → h (149 + r) q = h0 (149 + r) q ∧ h (218 + r) q = h0 (218 + r) q) → (∀ q, p ≤ q → q ≤ M1 + M2 → bst ht (pairK T1 T2 q) (h (149 + r) q) (h (218 + r) q)) → ft_V k_Ch_join 43 [some (.inr (.inr 143)), none, none, some (.inl (M2 : Int)), some (.inr (.inr (149 + r))), some (.inr (.inr (218 + r))), some (.inl (M1 : Int)), some (.inl ((p : Int) - 1)), none, none, none, none, none, none, none, none, none] [] h R := by
  have s4 := sha_148_all r hr
  have s5 := sha_217r hr
  intro p
  induction p with
  | zero =>
    intro h hp f f1 f2
    exact b_Ch_join_43 s4 s5 ⟨fun _ => hk h (fun q hq => f2 q (Nat.zero_le q) hq) f, fun c => absurd (by omega) c⟩
  | succ p ih =>
    intro h hp f f1 f2
    rw [show ((p + 1 : Nat) : Int) - 1 = (p : Int) by push_cast; omega]
    refine b_Ch_join_43 s4 s5 ⟨fun c => absurd c (by omega), fun _ n1 e1 n2 e2 n3 e3 => ?_⟩
    rw [e1, e2, e3, ft_sub_eq ⟨by omega, by omega⟩, show max 0 ((p : Int) - (M1 : Int)) = ((p - M1 : Nat) : Int) by omega]
    refine v_Ch_join73 hn hA hC hx hA60 hC60 hM1 hM2 hM hU1 hU2 hr (p := p) (by omega) (fun q q1 q2 => ?_) (fun q q1 => ?_) (fun H B h1 h2 hb e1 e2 => ?_) (min p M2 + 1 - (p - M1)) (p - M1) (-1) 0 (by omega) (Nat.le_refl _) (Or.inl ⟨rfl, rfl, fun D => ?_⟩)
    · rw [(f1 q (by omega)).1, (f1 q (by omega)).2]
      exact g1 q q1
    · rw [f 287 (by omega) (by omega), f 288 (by omega) (by omega)]
      exact g2 q q1
    · rw [decr (by omega)]
      have x1 : h2 (149 + r) = h1 (149 + r) := by rw [e2]; exact ft_hs_ne _ (by omega)
      have x2 : ∀ q, q ≠ p → h2 (149 + r) q = h (149 + r) q ∧ h2 (218 + r) q = h (218 + r) q := fun q hq => by
        rw [x1, e1, ft_hs_j hq, e2, ft_hs_j hq, e1, ft_hs_ne _ (by omega)]
        exact ⟨rfl, rfl⟩
      refine ih h2 (by omega) (fun c c1 c2 => by rw [e2, ft_hs_ne c c2, e1, ft_hs_ne c c1, f c c1 c2]) (fun q hq => ?_) (fun q q1 q2 => ?_)
      · rw [(x2 q (by omega)).1, (x2 q (by omega)).2]
        exact f1 q (by omega)
      · by_cases e : q = p
        · subst e
          rw [x1, e1, ft_hs_same, e2, ft_hs_same]
          exact hb
        · rw [(x2 q e).1, (x2 q e).2]
          exact f2 q (by omega) q2
    · rintro ⟨q, q1, q2, -⟩
      omega
theorem c_Ch_join {ht : Nat → Int} (hn : ∀ i, 0 ≤ ht i) {T1 T2 : Nat → List (Nat × Bool) → Prop} {A C : List Nat} (hA : ∀ p D, T1 p D → D.map (fun x => x.1) = A) (hC : ∀ p D, T2 p D → D.map (fun x => x.1) = C) (hx : ∀ x, ¬ (x ∈ C ∧ x ∈ A)) (hA60 : ∀ x ∈ A, x < 60) (hC60 : ∀ x ∈ C, x < 60) {M1 M2 : Nat} (hM1 : ∀ p D, T1 p D → p ≤ M1) (hM2 : ∀ p D, T2 p D → p ≤ M2) (hM : M1 + M2 ≤ 60) (hU1 : ∀ p D, T1 p D → hD ht D ≤ 40000000) (hU2 : ∀ p D, T2 p D → hD ht D ≤ 40000000) {d k : Nat} (hd : d < 34) (hk1 : k ≤ 1) {h : ftH} (h86 : h 286 d = (M1 : Int)) (g1 : ∀ q, q ≤ M1 → bst ht (T1 q) (h (149 + (2 * d + k)) q) (h (218 + (2 * d + k)) q)) (g2 : ∀ q, q ≤ M2 → bst ht (T2 q) (h 287 q) (h 288 q)) : ft_C k_Ch_join [.inr (.inr 143), .inl (d : Int), .inl (k : Int), .inl (M2 : Int)] h (fun r h' => r = none ∧ (∀ q, q ≤ M1 + M2 → bst ht (pairK T1 T2 q) (h' (149 + (2 * d + k)) q) (h' (218 + (2 * d + k)) q)) ∧ ∀ c, c ≠ 149 + (2 * d + k) → c ≠ 218 + (2 * d + k) → h' c = h c) := by
  have em : ft_add (ft_mul 2 (d : Int)) (k : Int) = ((2 * d + k : Nat) : Int) := by
    rw [ft_mul_eq ⟨by omega, by omega⟩, ft_add_eq ⟨by omega, by omega⟩]
    push_cast
    rfl
  refine ft_enter (n := 13) rfl (Nat.le_of_ble_eq_true rfl) rfl (b_Ch_join_0 ?_)
  rw [em, Int.toNat_natCast, Int.toNat_natCast, h86]
  clear em
  refine ⟨⟨by omega, by omega⟩, ⟨by omega, by omega⟩, ⟨by omega, by omega⟩, fun n3 e3 n4 e4 => ?_⟩
  rw [e3, ft_add_eq ⟨by omega, by omega⟩] at e4
  rw [e3, e4, show min ((M1 : Int) + (M2 : Int)) 60 = ((M1 + M2 + 1 : Nat) : Int) - 1 by push_cast; omega]
  exact v_Ch_join43 hn hA hC hx hA60 hC60 hM1 hM2 hM hU1 hU2 (show 2 * d + k < 68 by omega) g1 g2 (fun g k1 k2 => ⟨rfl, k1, k2⟩) (M1 + M2 + 1) h (Nat.le_refl _) (fun c _ _ => rfl) (fun q _ => ⟨rfl, rfl⟩) (fun q q1 q2 => by omega)
