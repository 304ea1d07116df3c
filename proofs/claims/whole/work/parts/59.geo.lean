/-! PURE: places of a list in order; longest matches as a function; counting -/
theorem sorted_ext {α : Type} {r : α → α → Prop} (hir : ∀ a b, r a b → r b a → False) : ∀ {l1 l2 : List α}, l1.Pairwise r → l2.Pairwise r → (∀ x, x ∈ l1 ↔ x ∈ l2) → l1 = l2
  | [], [], _, _, _ => rfl
  | [], b :: l2, _, _, h => absurd ((h b).mpr List.mem_cons_self) (by simp)
  | a :: l1, [], _, _, h => absurd ((h a).mp List.mem_cons_self) (by simp)
  | a :: l1, b :: l2, h1, h2, h => by
    have p1 := List.pairwise_cons.mp h1
    have p2 := List.pairwise_cons.mp h2
    have e : a = b := by
      rcases List.mem_cons.mp ((h a).mp List.mem_cons_self) with e | e
      · exact e
      · rcases List.mem_cons.mp ((h b).mpr List.mem_cons_self) with e' | e'
        · exact e'.symm
        · exact (hir a b (p1.1 b e') (p2.1 a e)).elim
    subst e
    rw [sorted_ext hir p1.2 p2.2 (fun x => ?_)]
    constructor
    · intro hx
      rcases List.mem_cons.mp ((h x).mp (List.mem_cons_of_mem _ hx)) with e | e
      · subst e
        exact (hir x x (p1.1 x hx) (p1.1 x hx)).elim
      · exact e
    · intro hx
      rcases List.mem_cons.mp ((h x).mpr (List.mem_cons_of_mem _ hx)) with e | e
      · subst e
        exact (hir x x (p2.1 x hx) (p2.1 x hx)).elim
      · exact e
def kAt (L : List (Int × Int)) (i : Nat) : Int := (L[i]?.getD (0, 0)).1
def vAt (L : List (Int × Int)) (i : Nat) : Int := (L[i]?.getD (0, 0)).2
def kS (L : List (Int × Int)) (i : Nat) : Int := kAt L i / 64
def kN (L : List (Int × Int)) (i : Nat) : Int := kAt L i % 64
def kE (L : List (Int × Int)) (i : Nat) : Int := kS L i + pSz (kN L i)
theorem kAt_get {L : List (Int × Int)} {i : Nat} (h : i < L.length) : L[i]? = some (kAt L i, vAt L i) := by
  unfold kAt vAt
  rw [List.getElem?_eq_getElem h]
  rfl
theorem kAt_of {L : List (Int × Int)} {i : Nat} {q : Int × Int} (h : L[i]? = some q) : kAt L i = q.1 ∧ vAt L i = q.2 := by
  unfold kAt vAt
  rw [h]
  exact ⟨rfl, rfl⟩
theorem kAt_pK {L : List (Int × Int)} (hL : lOk L) {i : Nat} (h : i < L.length) : pK (kAt L i) := (hL.1 _ (List.mem_of_getElem? (kAt_get h))).1
theorem kAt_lt {L : List (Int × Int)} (hL : lOk L) {i j : Nat} (hij : i < j) (h : j < L.length) : kAt L i < kAt L j := by
  have h1 := List.pairwise_iff_getElem.mp hL.2 i j (by omega) h hij
  have e1 := kAt_get (L := L) (i := i) (by omega)
  have e2 := kAt_get h
  rw [List.getElem?_eq_getElem (by omega)] at e1 e2
  rw [Option.some.inj e1, Option.some.inj e2] at h1
  exact h1
theorem kS_le {L : List (Int × Int)} (hL : lOk L) {i j : Nat} (hij : i ≤ j) (h : j < L.length) : kS L i ≤ kS L j := by
  unfold kS
  rcases Nat.lt_or_eq_of_le hij with c | c
  · have := kAt_lt hL c h
    omega
  · rw [c]
    exact Int.le_refl _
theorem kS_rng {L : List (Int × Int)} (hL : lOk L) {i : Nat} (h : i < L.length) : 0 ≤ kS L i ∧ kS L i < 4294967296 ∧ 0 ≤ kN L i ∧ kN L i ≤ 32 ∧ kS L i < kE L i := by
  have h1 := kAt_pK hL h
  have h2 := pSz_pos (kN L i)
  unfold kE kS kN at *
  obtain ⟨h3, h4, h5⟩ := h1
  omega
theorem pK_end {k : Int} (h : pK k) : k / 64 + pSz (k % 64) ≤ 4294967296 := by
  obtain ⟨h1, h2, h3⟩ := h
  have hp := pSz_pos (k % 64)
  have hd : pSz (k % 64) ∣ 4294967296 := by
    have := pSz_dvd (a := 0) (b := k % 64) (by omega) (by omega) h2
    exact this
  obtain ⟨c, hc⟩ := hd
  have he := Int.mul_ediv_add_emod (k / 64) (pSz (k % 64))
  rw [h3, Int.add_zero] at he
  rw [← he, hc]
  have hlt : pSz (k % 64) * (k / 64 / pSz (k % 64)) < pSz (k % 64) * c := by rw [he, ← hc]; omega
  have := Int.lt_of_mul_lt_mul_left hlt (by omega)
  have h9 : pSz (k % 64) * (k / 64 / pSz (k % 64)) + pSz (k % 64) = pSz (k % 64) * (k / 64 / pSz (k % 64) + 1) := by rw [Int.mul_add, Int.mul_one]
  rw [h9]
  exact Int.mul_le_mul_of_nonneg_left (by omega) (by omega)
theorem kE_le {L : List (Int × Int)} (hL : lOk L) {i : Nat} (h : i < L.length) : kE L i ≤ 4294967296 := pK_end (kAt_pK hL h)
theorem mul_step {s m n : Int} (hs : 0 < s) (h : s * m < s * n + s) : s * m ≤ s * n := by
  have h9 : s * n + s = s * (n + 1) := by rw [Int.mul_add, Int.mul_one]
  rw [h9] at h
  have := Int.lt_of_mul_lt_mul_left h (by omega)
  exact Int.mul_le_mul_of_nonneg_left (by omega) (by omega)
/-- one lies in the other -/
theorem pk_inn {a b x : Int} (ha : pK a) (hb : pK b) (ia : pIn a x) (ib : pIn b x) (hl : a % 64 ≤ b % 64) : a / 64 ≤ b / 64 ∧ b / 64 + pSz (b % 64) ≤ a / 64 + pSz (a % 64) := by
  have h1 := pIn_val ha ia
  have h2 := pIn_val hb ib
  obtain ⟨c, hc⟩ := pSz_dvd (a := a % 64) (b := b % 64) (by omega) hl hb.2.1
  have p1 := pSz_pos (a % 64)
  have p2 := pSz_pos (b % 64)
  unfold pIn at ia ib
  have e1 : a / 64 = pSz (b % 64) * (c * (x / pSz (a % 64))) := by rw [← Int.mul_assoc, ← hc]; exact h1
  generalize hm : c * (x / pSz (a % 64)) = m at e1
  generalize hn : x / pSz (b % 64) = n at h2
  generalize hs : pSz (b % 64) = s at *
  constructor
  · rw [e1, h2]
    refine mul_step p2 ?_
    rw [← e1, ← h2]
    omega
  · have h5 : b / 64 < a / 64 + pSz (a % 64) := by omega
    have h6 : s * n + s ≤ s * m + s * c := by
      rw [h2, e1, hc] at h5
      rw [← Int.mul_add] at h5 ⊢
      have := Int.lt_of_mul_lt_mul_left h5 (by omega)
      have h9 : s * n + s = s * (n + 1) := by rw [Int.mul_add, Int.mul_one]
      rw [h9]
      exact Int.mul_le_mul_of_nonneg_left (by omega) (by omega)
    rw [h2, e1, hc]
    exact h6
theorem kIn_nest {L : List (Int × Int)} (hL : lOk L) {i j : Nat} (hij : i < j) (hj : j < L.length) {x : Int} (ii : pIn (kAt L i) x) (ij : pIn (kAt L j) x) : kN L i < kN L j ∧ kS L i ≤ kS L j ∧ kE L j ≤ kE L i := by
  have h1 := kAt_pK hL (show i < L.length by omega)
  have h2 := kAt_pK hL hj
  have h3 := pIn_nest h1 h2 ii ij (kAt_lt hL hij hj)
  exact ⟨h3, pk_inn h1 h2 ii ij (by omega)⟩
theorem kIn_iff {L : List (Int × Int)} {i : Nat} {x : Int} : pIn (kAt L i) x ↔ kS L i ≤ x ∧ x < kE L i := Iff.rfl
/-- the number of the last that contains the address, or -1 -/
def lmI : List (Int × Int) → Int → Int
  | [], _ => -1
  | q :: l, x => if 0 ≤ lmI l x then lmI l x + 1 else if pInB q.1 x = true then 0 else -1
theorem isLm_lmI : ∀ (l : List (Int × Int)) (x : Int), isLm l x (lmI l x)
  | [], x => Or.inl ⟨rfl, by simp⟩
  | q :: l, x => by
    rcases isLm_lmI l x with ⟨h1, h2⟩ | ⟨p, s, h1, h2, h3, h4⟩
    · rw [lmI, h1, if_neg (by omega)]
      by_cases c : pInB q.1 x = true
      · rw [if_pos c]
        refine Or.inr ⟨0, q, rfl, rfl, c, fun j t hj ht => ?_⟩
        obtain ⟨j', rfl⟩ : ∃ j', j = j' + 1 := ⟨j - 1, by omega⟩
        rw [List.getElem?_cons_succ] at ht
        exact h2 t (List.mem_of_getElem? ht)
      · rw [if_neg c]
        refine Or.inl ⟨rfl, fun t ht => ?_⟩
        rcases List.mem_cons.mp ht with e | e
        · rw [e]
          simpa using c
        · exact h2 t e
    · rw [lmI, h1, if_pos (by omega)]
      refine Or.inr ⟨p + 1, s, by push_cast; rfl, by rw [List.getElem?_cons_succ]; exact h2, h3, fun j t hj ht => ?_⟩
      obtain ⟨j', rfl⟩ : ∃ j', j = j' + 1 := ⟨j - 1, by omega⟩
      rw [List.getElem?_cons_succ] at ht
      exact h4 j' t (by omega) ht
theorem lmI_of {l : List (Int × Int)} {x r : Int} (h : isLm l x r) : lmI l x = r := isLm_uniq (isLm_lmI l x) h
theorem lmI_rng (l : List (Int × Int)) (x : Int) : -1 ≤ lmI l x ∧ lmI l x < l.length := by
  rcases isLm_lmI l x with ⟨h1, h2⟩ | ⟨p, s, h1, h2, h3, h4⟩
  · omega
  · have := (List.getElem?_eq_some_iff.mp h2).1
    omega
theorem lmI_in {L : List (Int × Int)} {x : Int} {p : Nat} (h : lmI L x = p) : p < L.length ∧ pIn (kAt L p) x ∧ ∀ j, p < j → j < L.length → ¬ pIn (kAt L j) x := by
  rcases isLm_lmI L x with ⟨h1, h2⟩ | ⟨p', s, h1, h2, h3, h4⟩
  · omega
  · have e : p' = p := by omega
    subst e
    refine ⟨(List.getElem?_eq_some_iff.mp h2).1, ?_, fun j hj hl hi => ?_⟩
    · rw [(kAt_of h2).1]
      exact pInB_iff.mp h3
    · have := h4 j _ hj (kAt_get hl)
      rw [pInB_iff.mpr hi] at this
      cases this
theorem lmI_eq {L : List (Int × Int)} {x : Int} {p : Nat} (hp : p < L.length) (hi : pIn (kAt L p) x) (hn : ∀ j, p < j → j < L.length → ¬ pIn (kAt L j) x) : lmI L x = p := by
  refine lmI_of (Or.inr ⟨p, _, rfl, kAt_get hp, pInB_iff.mpr hi, fun j s hj hs => ?_⟩)
  refine pInB_no ?_
  have := hn j hj (List.getElem?_eq_some_iff.mp hs).1
  rwa [(kAt_of hs).1] at this
theorem lmI_no {L : List (Int × Int)} {x : Int} (hn : ∀ j, j < L.length → ¬ pIn (kAt L j) x) : lmI L x = -1 := by
  refine lmI_of (Or.inl ⟨rfl, fun q hq => ?_⟩)
  obtain ⟨j, hj⟩ := List.getElem?_of_mem hq
  refine pInB_no ?_
  have := hn j (List.getElem?_eq_some_iff.mp hj).1
  rwa [(kAt_of hj).1] at this
theorem lmI_neg {L : List (Int × Int)} {x : Int} (h : lmI L x < 0) : lmI L x = -1 ∧ ∀ j, j < L.length → ¬ pIn (kAt L j) x := by
  rcases isLm_lmI L x with ⟨h1, h2⟩ | ⟨p', s, h1, h2, h3, h4⟩
  · refine ⟨h1, fun j hj hi => ?_⟩
    have := h2 _ (List.mem_of_getElem? (kAt_get hj))
    rw [pInB_iff.mpr hi] at this
    cases this
  · omega
theorem ansOf_lmI (L : List (Int × Int)) (x : Int) : ansOf L x = if 0 ≤ lmI L x then vAt L (lmI L x).toNat else 0 := by
  rcases lmatch_of (isLm_lmI L x) with ⟨h1, h2⟩ | ⟨p, q, h1, h2, h3⟩
  · rw [ansOf, h2, h1, if_neg (by omega)]
  · rw [ansOf, h3, h1, if_pos (by omega), Int.toNat_natCast, (kAt_of h2).2]
/-- the parent's number, or -1; how many lie around -/
def parI (L : List (Int × Int)) (i : Nat) : Int := lmI (L.take i) (kS L i)
def dep (L : List (Int × Int)) (i : Nat) : Nat := ((List.range i).filter fun j => pInB (kAt L j) (kS L i)).length
theorem kAt_take {L : List (Int × Int)} {i j : Nat} (h : j < i) : kAt (L.take i) j = kAt L j ∧ vAt (L.take i) j = vAt L j := by
  unfold kAt vAt
  rw [List.getElem?_take_of_lt h]
  exact ⟨rfl, rfl⟩
/-- counting -/
def cN (P : Int → Bool) : Nat → Int
  | 0 => 0
  | n + 1 => cN P n + if P (n : Int) = true then 1 else 0
theorem cN_const {P : Int → Bool} {b : Bool} {lo : Nat} : ∀ m : Nat, (∀ x : Nat, lo ≤ x → x < lo + m → P (x : Int) = b) → cN P (lo + m) = cN P lo + if b = true then (m : Int) else 0
  | 0, _ => by cases b <;> simp
  | m + 1, h => by
    rw [← Nat.add_assoc, cN, cN_const m (fun x h1 h2 => h x h1 (by omega)), h (lo + m) (by omega) (by omega)]
    cases b
    · simp
    · simp only [if_pos]
      push_cast
      omega
theorem cN_seg {P : Int → Bool} {b : Bool} {lo hi : Nat} (h : lo ≤ hi) (hc : ∀ x : Nat, lo ≤ x → x < hi → P (x : Int) = b) : cN P hi = cN P lo + if b = true then (hi : Int) - lo else 0 := by
  have := cN_const (P := P) (b := b) (lo := lo) (hi - lo) (fun x h1 h2 => hc x h1 (by omega))
  rw [show lo + (hi - lo) = hi by omega] at this
  rw [this]
  split <;> omega
theorem cN_ext {P Q : Int → Bool} : ∀ n : Nat, (∀ x : Nat, x < n → P (x : Int) = Q x) → cN P n = cN Q n
  | 0, _ => rfl
  | n + 1, h => by rw [cN, cN, cN_ext n (fun x hx => h x (by omega)), h n (by omega)]
theorem cN_rng (P : Int → Bool) : ∀ n : Nat, 0 ≤ cN P n ∧ cN P n ≤ n
  | 0 => ⟨Int.le_refl 0, Int.le_refl 0⟩
  | n + 1 => by
    have := cN_rng P n
    rw [cN]
    split <;> push_cast <;> omega
/-- a place where the answer changes -/
def chg (A : Int → Int) (x : Int) : Bool := decide (0 < x) && decide (A x ≠ A (x - 1))
def mx (f : Nat → Int) : Nat → Int
  | 0 => 0
  | n + 1 => max (mx f n) (f n)
def W32 : Nat := 4294967296
theorem W32_eq : (W32 : Int) = 4294967296 := rfl
/-- runs of one answer, as far as w -/
def rnI (A : Int → Int) (m : Nat) (rs rh : Nat → Int) (w : Nat) : Prop := (m : Int) = (if w = 0 then 0 else 1) + cN (chg A) w ∧ (w = 0 ↔ m = 0) ∧ (0 < m → rs 0 = 0) ∧ ∀ r, r < m → ∃ s e : Nat, rs r = s ∧ s < e ∧ e ≤ w ∧ (r + 1 < m → rs (r + 1) = e ∧ rh (r + 1) ≠ rh r) ∧ (r + 1 = m → e = w) ∧ ∀ x : Nat, s ≤ x → x < e → A x = rh r
theorem chg_no {A : Int → Int} {x : Nat} (h : x = 0 ∨ A x = A ((x - 1 : Nat) : Int)) : chg A x = false := by
  unfold chg
  by_cases c : x = 0
  · rw [c]
    rfl
  · have e : ((x - 1 : Nat) : Int) = (x : Int) - 1 := by omega
    rw [← e]
    rcases h with h | h
    · exact absurd h c
    · rw [h]
      simp
theorem chg_yes {A : Int → Int} {x : Nat} (h0 : x ≠ 0) (h : A x ≠ A ((x - 1 : Nat) : Int)) : chg A x = true := by
  unfold chg
  have e : ((x - 1 : Nat) : Int) = (x : Int) - 1 := by omega
  rw [← e]
  simp only [Bool.and_eq_true, decide_eq_true_eq]
  exact ⟨by omega, h⟩
theorem chg_seg {A : Int → Int} {w w' : Nat} {z : Int} (hc : ∀ x : Nat, w ≤ x → x < w' → A x = z) : ∀ x : Nat, w + 1 ≤ x → x < w' → chg A x = false := fun x h1 h2 => chg_no (Or.inr (by rw [hc x (by omega) h2, hc (x - 1) (by omega) (by omega)]))
theorem rn_last {A : Int → Int} {m : Nat} {rs rh : Nat → Int} {w : Nat} (h : rnI A m rs rh w) (hm : 0 < m) : 0 < w ∧ A ((w - 1 : Nat) : Int) = rh (m - 1) := by
  obtain ⟨h1, h2, h3, h4⟩ := h
  obtain ⟨s, e, g1, g2, g3, g4, g5, g6⟩ := h4 (m - 1) (by omega)
  have := g5 (by omega)
  exact ⟨by omega, g6 (w - 1) (by omega) (by omega)⟩
theorem rn_on {A : Int → Int} {m : Nat} {rs rh : Nat → Int} {w w' : Nat} {z : Int} (h : rnI A m rs rh w) (hw : w < w') (hc : ∀ x : Nat, w ≤ x → x < w' → A x = z) (hm : 0 < m) (hz : rh (m - 1) = z) : rnI A m rs rh w' := by
  obtain ⟨l1, l2⟩ := rn_last h hm
  obtain ⟨h1, h2, h3, h4⟩ := h
  have hseg : cN (chg A) w' = cN (chg A) w := by
    rw [cN_seg (b := false) (Nat.le_of_lt hw) (fun x a1 a2 => ?_)]
    · simp
    · by_cases c : x = w
      · subst c
        refine chg_no (Or.inr ?_)
        rw [l2, hz]
        exact hc x (by omega) (by omega)
      · exact chg_seg hc x (by omega) a2
  refine ⟨by rw [hseg, if_neg (by omega)]; rw [if_neg (by omega)] at h1; exact h1, by omega, h3, fun r hr => ?_⟩
  obtain ⟨s, e, g1, g2, g3, g4, g5, g6⟩ := h4 r hr
  by_cases c : r + 1 = m
  · have e5 := g5 c
    refine ⟨s, w', g1, by omega, Nat.le_refl _, fun q => absurd q (by omega), fun _ => rfl, fun x a1 a2 => ?_⟩
    by_cases d : x < w
    · exact g6 x a1 (by omega)
    · rw [hc x (by omega) a2, ← hz, show m - 1 = r by omega]
  · exact ⟨s, e, g1, g2, by omega, g4, fun q => absurd q c, g6⟩
theorem rn_new {A : Int → Int} {m : Nat} {rs rh rs' rh' : Nat → Int} {w w' : Nat} {z : Int} (h : rnI A m rs rh w) (hw : w < w') (hc : ∀ x : Nat, w ≤ x → x < w' → A x = z) (hn : m = 0 ∨ rh (m - 1) ≠ z) (e1 : ∀ r, r < m → rs' r = rs r) (e2 : ∀ r, r < m → rh' r = rh r) (e3 : rs' m = w) (e4 : rh' m = z) : rnI A (m + 1) rs' rh' w' := by
  have hcnt : ((m + 1 : Nat) : Int) = (if w' = 0 then 0 else 1) + cN (chg A) w' := by
    rw [if_neg (by omega), cN_seg (P := chg A) (b := false) (show w + 1 ≤ w' by omega) (chg_seg hc), cN]
    by_cases c : m = 0
    · have := h.2.1.mpr c
      subst this
      have : chg A ((0 : Nat) : Int) = false := chg_no (Or.inl rfl)
      rw [this, c]
      simp [cN]
    · obtain ⟨l1, l2⟩ := rn_last h (by omega)
      have h1 := h.1
      rw [if_neg (by omega)] at h1
      have : chg A (w : Int) = true := chg_yes (by omega) (by
        rw [l2, hc w (by omega) hw]
        rcases hn with q | q
        · exact absurd q c
        · exact fun p => q p.symm)
      rw [this]
      simp only [if_pos]
      push_cast
      simp
      omega
  obtain ⟨h1, h2, h3, h4⟩ := h
  refine ⟨hcnt, by omega, fun _ => ?_, fun r hr => ?_⟩
  · by_cases c : m = 0
    · subst c
      rw [e3, h2.mpr rfl]
      rfl
    · rw [e1 0 (by omega)]
      exact h3 (by omega)
  · by_cases c : r = m
    · subst c
      exact ⟨w, w', e3, hw, Nat.le_refl _, fun q => absurd q (by omega), fun _ => rfl, fun x a1 a2 => by rw [e4]; exact hc x a1 a2⟩
    · obtain ⟨s, e, g1, g2, g3, g4, g5, g6⟩ := h4 r (by omega)
      refine ⟨s, e, by rw [e1 r (by omega)]; exact g1, g2, by omega, fun q => ?_, fun q => absurd q (by omega), fun x a1 a2 => by rw [e2 r (by omega)]; exact g6 x a1 a2⟩
      by_cases d : r + 1 = m
      · rw [d, e3, e4, e2 r (by omega), g5 d]
        refine ⟨rfl, ?_⟩
        rcases hn with q | q
        · omega
        · intro p
          apply q
          rw [p, ← d]
          rfl
      · obtain ⟨q1, q2⟩ := g4 (by omega)
        rw [e1 _ (by omega), e2 _ (by omega), e2 r (by omega)]
        exact ⟨q1, q2⟩
def hdI : List Nat → Int
  | [] => -1
  | j :: _ => j
/-- what lies around the place w, the longest first -/
def stk (L : List (Int × Int)) (i : Nat) (os : List Nat) (w : Nat) : Prop := i ≤ L.length ∧ (∀ j ∈ os, j < i ∧ kS L j ≤ w ∧ (w : Int) ≤ kE L j) ∧ (∀ j, j < i → (w : Int) < kE L j → j ∈ os) ∧ os.Pairwise (fun j k => k < j ∧ kE L j ≤ kE L k ∧ kN L k < kN L j) ∧ ∀ j, i ≤ j → j < L.length → (w : Int) ≤ kS L j
theorem stk_hd {L : List (Int × Int)} {i : Nat} {os : List Nat} {w w' : Nat} (hs : stk L i os w) (h1 : ∀ j ∈ os, (w' : Int) ≤ kE L j) (h2 : ∀ j, i ≤ j → j < L.length → (w' : Int) ≤ kS L j) : ∀ x : Nat, w ≤ x → x < w' → lmI L (x : Int) = hdI os := by
  obtain ⟨s0, s1, s2, s3, s4⟩ := hs
  intro x a1 a2
  have no : ∀ j, i ≤ j → j < L.length → ¬ pIn (kAt L j) x := fun j b1 b2 q => by
    have := h2 j b1 b2
    have := (kIn_iff.mp q).1
    omega
  cases os with
  | nil =>
    refine lmI_no (fun j hj q => ?_)
    by_cases c : i ≤ j
    · exact no j c hj q
    · have := (kIn_iff.mp q).2
      have := s2 j (by omega) (by omega)
      cases this
  | cons j os =>
    obtain ⟨t1, t2, t3⟩ := s1 j List.mem_cons_self
    have t4 := h1 j List.mem_cons_self
    refine lmI_eq (by omega) (kIn_iff.mpr ⟨by omega, by omega⟩) (fun k b1 b2 q => ?_)
    by_cases c : i ≤ k
    · exact no k c b2 q
    · have := (kIn_iff.mp q).2
      rcases List.mem_cons.mp (s2 k (by omega) (by omega)) with e | e
      · omega
      · have := ((List.pairwise_cons.mp s3).1 k e).1
        omega
theorem stk_pop {L : List (Int × Int)} {i j w' : Nat} {os : List Nat} {w : Nat} (hs : stk L i (j :: os) w) (he : kE L j = w') (hn : ∀ k, i ≤ k → k < L.length → (w' : Int) ≤ kS L k) : stk L i os w' := by
  obtain ⟨s0, s1, s2, s3, s4⟩ := hs
  have p := List.pairwise_cons.mp s3
  have hj := s1 j List.mem_cons_self
  refine ⟨s0, fun k hk => ?_, fun k hk hlt => ?_, p.2, hn⟩
  · have h1 := s1 k (List.mem_cons_of_mem _ hk)
    have h2 := p.1 k hk
    exact ⟨h1.1, by omega, by omega⟩
  · rcases List.mem_cons.mp (s2 k hk (by omega)) with e | e
    · rw [e] at hlt
      omega
    · exact e
theorem stk_go {L : List (Int × Int)} {i w w' : Nat} {os : List Nat} (hs : stk L i os w) (hw : w ≤ w') (h1 : ∀ j ∈ os, (w' : Int) ≤ kE L j) (h2 : ∀ j, i ≤ j → j < L.length → (w' : Int) ≤ kS L j) : stk L i os w' := by
  obtain ⟨s0, s1, s2, s3, s4⟩ := hs
  exact ⟨s0, fun j hj => ⟨(s1 j hj).1, by have := (s1 j hj).2.1; omega, h1 j hj⟩, fun j hj hl => s2 j hj (by omega), s3, h2⟩
theorem stk_in {L : List (Int × Int)} {i w : Nat} {os : List Nat} (hs : stk L i os w) (hi : i < L.length) (hw : kS L i = w) (ht : ∀ j ∈ os, (w : Int) < kE L j) : ∀ j, j ∈ os ↔ j < i ∧ pIn (kAt L j) (kS L i) := fun j => by
  obtain ⟨s0, s1, s2, s3, s4⟩ := hs
  constructor
  · intro hj
    have := s1 j hj
    exact ⟨this.1, kIn_iff.mpr ⟨by omega, by rw [hw]; exact ht j hj⟩⟩
  · rintro ⟨h1, h2⟩
    exact s2 j h1 (by rw [← hw]; exact (kIn_iff.mp h2).2)
theorem stk_push {L : List (Int × Int)} (hL : lOk L) {i w : Nat} {os : List Nat} (hs : stk L i os w) (hi : i < L.length) (hw : kS L i = w) (ht : ∀ j ∈ os, (w : Int) < kE L j) : stk L (i + 1) (i :: os) w := by
  have hin := stk_in hs hi hw ht
  obtain ⟨s0, s1, s2, s3, s4⟩ := hs
  have hr := kS_rng hL hi
  refine ⟨hi, fun j hj => ?_, fun j hj hl => ?_, List.pairwise_cons.mpr ⟨fun k hk => ?_, s3⟩, fun j h1 h2 => ?_⟩
  · rcases List.mem_cons.mp hj with e | e
    · rw [e]
      exact ⟨by omega, by omega, by omega⟩
    · have := s1 j e
      exact ⟨by omega, this.2⟩
  · by_cases c : j = i
    · rw [c]
      exact List.mem_cons_self
    · exact List.mem_cons_of_mem _ (s2 j (by omega) hl)
  · have h1 := (hin k).mp hk
    have := kIn_nest hL h1.1 hi h1.2 (kIn_iff.mpr ⟨Int.le_refl _, hr.2.2.2.2⟩)
    exact ⟨h1.1, this.2.2, this.1⟩
  · rw [← hw]
    exact kS_le hL (by omega) h2
theorem stk_par {L : List (Int × Int)} {i w : Nat} {os : List Nat} (hs : stk L i os w) (hi : i < L.length) (hw : kS L i = w) (ht : ∀ j ∈ os, (w : Int) < kE L j) : parI L i = hdI os ∧ dep L i = os.length := by
  have hin := stk_in hs hi hw ht
  constructor
  · unfold parI
    cases os with
    | nil =>
      refine lmI_no (fun j hj q => ?_)
      rw [List.length_take] at hj
      rw [(kAt_take (by omega)).1] at q
      exact absurd ((hin j).mpr ⟨by omega, q⟩) (by simp)
    | cons j os =>
      have h1 := (hin j).mp List.mem_cons_self
      refine lmI_eq (by rw [List.length_take]; omega) (by rw [(kAt_take h1.1).1]; exact h1.2) (fun k b1 b2 q => ?_)
      rw [List.length_take] at b2
      rw [(kAt_take (by omega)).1] at q
      rcases List.mem_cons.mp ((hin k).mpr ⟨by omega, q⟩) with e | e
      · omega
      · have := ((List.pairwise_cons.mp hs.2.2.2.1).1 k e).1
        omega
  · unfold dep
    have e : (List.range i).filter (fun j => pInB (kAt L j) (kS L i)) = os.reverse := by
      refine sorted_ext (r := fun a b : Nat => a < b) (fun a b h1 h2 => by omega) (List.pairwise_lt_range.sublist List.filter_sublist) ?_ (fun x => ?_)
      · rw [List.pairwise_reverse]
        exact hs.2.2.2.1.imp (fun q => q.1)
      · rw [List.mem_filter, List.mem_range, List.mem_reverse, hin x, pInB_iff]
    rw [e, List.length_reverse]
theorem os_len {L : List (Int × Int)} : ∀ {os : List Nat} {n : Int}, os.Pairwise (fun j k => k < j ∧ kE L j ≤ kE L k ∧ kN L k < kN L j) → (∀ j ∈ os, 0 ≤ kN L j ∧ kN L j < n) → 0 ≤ n → (os.length : Int) ≤ n
  | [], n, _, _, h0 => by simpa using h0
  | j :: os, n, hp, hb, _ => by
    have p := List.pairwise_cons.mp hp
    have h1 := hb j List.mem_cons_self
    have := os_len (n := kN L j) p.2 (fun k hk => ⟨(hb k (List.mem_cons_of_mem _ hk)).1, (p.1 k hk).2.2⟩) h1.1
    rw [List.length_cons]
    push_cast
    omega
