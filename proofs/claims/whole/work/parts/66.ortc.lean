/-! PURE: the fewest entries, over the halves of addresses. A node: fuel d (its length is 32 - d) and its first address v -/
def ndOk (d : Nat) (v : Int) : Prop := d ≤ 32 ∧ pK (64 * v + (32 - (d : Int)))
theorem p2_pos (d : Nat) : (0 : Int) < 2 ^ d := Int.pow_pos (by omega)
theorem p2_succ (d : Nat) : (2 : Int) ^ (d + 1) = 2 ^ d + 2 ^ d := by rw [Int.pow_succ]; omega
theorem pSz_nd {d : Nat} (h : d ≤ 32) : pSz (32 - (d : Int)) = 2 ^ d := by
  unfold pSz
  rw [show 32 - (32 - (d : Int)).toNat = d by omega]
theorem nd_eq {d : Nat} {v : Int} (h : d ≤ 32) : (64 * v + (32 - (d : Int))) / 64 = v ∧ (64 * v + (32 - (d : Int))) % 64 = 32 - d := by omega
theorem nd_in {d : Nat} {v x : Int} (h : d ≤ 32) : pIn (64 * v + (32 - (d : Int))) x ↔ v ≤ x ∧ x < v + 2 ^ d := by
  unfold pIn
  rw [(nd_eq h).1, (nd_eq h).2, pSz_nd h]
theorem nd_rng {d : Nat} {v : Int} (h : ndOk d v) : 0 ≤ v ∧ v + 2 ^ d ≤ 4294967296 := by
  have h1 := pK_end h.2
  have h2 := h.2.1.1
  have h3 := h.1
  rw [(nd_eq h.1).1, (nd_eq h.1).2, pSz_nd h.1] at h1
  omega
theorem nd_mod {d : Nat} {v : Int} (h : ndOk d v) : v % 2 ^ d = 0 := by
  have h1 := h.2.2.2
  rw [(nd_eq h.1).1, (nd_eq h.1).2, pSz_nd h.1] at h1
  exact h1
theorem nd_mk {d : Nat} {v : Int} (h : d ≤ 32) (h0 : 0 ≤ v) (h1 : v < 4294967296) (hm : v % 2 ^ d = 0) : ndOk d v := by
  refine ⟨h, ⟨by omega, by omega⟩, by omega, ?_⟩
  rw [(nd_eq h).1, (nd_eq h).2, pSz_nd h]
  exact hm
theorem nd_left {d : Nat} {v : Int} (h : ndOk (d + 1) v) : ndOk d v := by
  have h1 := nd_rng h
  have h2 := nd_mod h
  have hp := p2_pos (d + 1)
  refine nd_mk (by have := h.1; omega) h1.1 (by omega) ?_
  have : (2 : Int) ^ d ∣ v := Int.dvd_trans ⟨2, by rw [p2_succ]; omega⟩ (Int.dvd_of_emod_eq_zero h2)
  exact Int.emod_eq_zero_of_dvd this
theorem nd_right {d : Nat} {v : Int} (h : ndOk (d + 1) v) : ndOk d (v + 2 ^ d) := by
  have h1 := nd_rng h
  have h3 := nd_mod (nd_left h)
  have hp := p2_pos d
  have hs := p2_succ d
  refine nd_mk (by have := h.1; omega) (by omega) (by omega) ?_
  rw [Int.add_emod_right]
  exact h3
theorem nd_root : ndOk 32 0 := ⟨by omega, ⟨by omega, by omega⟩, by decide, by decide⟩
/-- a route inside a node or equal to it; properly inside -/
def rIn (d : Nat) (v : Int) (q : Int × Int) : Bool := decide (v ≤ q.1 / 64) && (decide (q.1 / 64 < v + 2 ^ d) && decide ((32 : Int) - d ≤ q.1 % 64))
def rPr (d : Nat) (v : Int) (q : Int × Int) : Bool := decide (v ≤ q.1 / 64) && (decide (q.1 / 64 < v + 2 ^ d) && decide ((32 : Int) - d < q.1 % 64))
theorem rIn_iff {d : Nat} {v : Int} {q : Int × Int} : rIn d v q = true ↔ v ≤ q.1 / 64 ∧ q.1 / 64 < v + 2 ^ d ∧ (32 : Int) - d ≤ q.1 % 64 := by simp [rIn]
theorem rPr_iff {d : Nat} {v : Int} {q : Int × Int} : rPr d v q = true ↔ v ≤ q.1 / 64 ∧ q.1 / 64 < v + 2 ^ d ∧ (32 : Int) - d < q.1 % 64 := by simp [rPr]
theorem rPr_half {d : Nat} {v : Int} {q : Int × Int} : rPr (d + 1) v q = true ↔ rIn d v q = true ∨ rIn d (v + 2 ^ d) q = true := by
  rw [rPr_iff, rIn_iff, rIn_iff, p2_succ]
  have := p2_pos d
  omega
def hR (L : List (Int × Int)) (d : Nat) (v : Int) : Bool := L.any (rPr d v)
theorem hR_iff {L : List (Int × Int)} {d : Nat} {v : Int} : hR L d v = true ↔ ∃ q ∈ L, rPr d v q = true := by unfold hR; rw [List.any_eq_true]
theorem hR_no {L : List (Int × Int)} {d : Nat} {v : Int} : ¬ hR L d v = true ↔ ∀ q ∈ L, ¬ rPr d v q = true := by
  rw [hR_iff]
  constructor
  · intro h q hq hp; exact h ⟨q, hq, hp⟩
  · rintro h ⟨q, hq, hp⟩; exact h q hq hp
/-- the answer of those shorter than b -/
def arF (L : List (Int × Int)) (b v : Int) : Int := match L.reverse.find? (fun q => decide (q.1 % 64 < b) && pInB q.1 v) with
  | some q => q.2
  | none => 0
theorem find_congr {α : Type} {p p' : α → Bool} : ∀ {l : List α}, (∀ x ∈ l, p x = p' x) → l.find? p = l.find? p'
  | [], _ => rfl
  | x :: l, h => by
    rw [List.find?_cons, List.find?_cons, h x List.mem_cons_self, find_congr (fun y hy => h y (List.mem_cons_of_mem _ hy))]
theorem arF_congr {L : List (Int × Int)} {b b' v v' : Int} (h : ∀ q ∈ L, (q.1 % 64 < b ∧ pIn q.1 v) ↔ (q.1 % 64 < b' ∧ pIn q.1 v')) : arF L b v = arF L b' v' := by
  unfold arF
  rw [find_congr (fun q hq => ?_)]
  rw [Bool.eq_iff_iff, Bool.and_eq_true, Bool.and_eq_true, decide_eq_true_eq, decide_eq_true_eq, pInB_iff, pInB_iff]
  exact h q (List.mem_reverse.mp hq)
theorem ansOf_arF {L : List (Int × Int)} {b v : Int} (h : ∀ q ∈ L, pIn q.1 v → q.1 % 64 < b) : ansOf L v = arF L b v := by
  have hc : L.reverse.find? (fun q => pInB q.1 v) = L.reverse.find? (fun q => decide (q.1 % 64 < b) && pInB q.1 v) := find_congr (fun q hq => by
    rw [Bool.eq_iff_iff, Bool.and_eq_true, decide_eq_true_eq, pInB_iff]
    exact ⟨fun q1 => ⟨h q (List.mem_reverse.mp hq) q1, q1⟩, fun q1 => q1.2⟩)
  unfold ansOf lmatch arF
  rw [hc]
  cases L.reverse.find? (fun q => decide (q.1 % 64 < b) && pInB q.1 v) <;> rfl
/-- a route over a node's first address that is longer than the node lies properly inside it -/
theorem rPr_of {L : List (Int × Int)} (hL : lOk L) {d : Nat} {v : Int} (hn : ndOk d v) {q : Int × Int} (hq : q ∈ L) (hi : pIn q.1 v) (hl : (32 : Int) - d ≤ q.1 % 64) : v = q.1 / 64 ∧ rIn d v q = true := by
  have hk := (hL.1 q hq).1
  have hp := p2_pos d
  have := pk_inn hn.2 hk ((nd_in hn.1).mpr ⟨Int.le_refl v, by omega⟩) hi (by rw [(nd_eq hn.1).2]; exact hl)
  rw [(nd_eq hn.1).1] at this
  unfold pIn at hi
  refine ⟨by omega, rIn_iff.mpr ⟨by omega, by omega, hl⟩⟩
theorem ans_leaf {L : List (Int × Int)} (hL : lOk L) {d : Nat} {v : Int} (hn : ndOk d v) (hh : ¬ hR L d v = true) : ansOf L v = arF L (33 - d) v := by
  refine ansOf_arF (fun q hq hi => ?_)
  by_cases c : q.1 % 64 < 33 - d
  · exact c
  · have h1 := rPr_of hL hn hq hi (by omega)
    have h2 := rIn_iff.mp h1.2
    exact absurd (rPr_iff.mpr ⟨h2.1, h2.2.1, by omega⟩) (hR_no.mp hh q hq)
/-- shorter ones see all of a node alike -/
theorem arF_in {L : List (Int × Int)} (hL : lOk L) {d : Nat} {v x : Int} (hn : ndOk d v) (hx : v ≤ x ∧ x < v + 2 ^ d) : arF L (33 - d) x = arF L (33 - d) v := by
  refine arF_congr (fun q hq => ?_)
  have hk := (hL.1 q hq).1
  have hp := p2_pos d
  constructor
  · rintro ⟨h1, h2⟩
    refine ⟨h1, ?_⟩
    have := pk_inn hk hn.2 h2 ((nd_in hn.1).mpr hx) (by rw [(nd_eq hn.1).2]; omega)
    rw [(nd_eq hn.1).1, (nd_eq hn.1).2, pSz_nd hn.1] at this
    unfold pIn
    omega
  · rintro ⟨h1, h2⟩
    refine ⟨h1, ?_⟩
    have := pk_inn hk hn.2 h2 ((nd_in hn.1).mpr ⟨Int.le_refl v, by omega⟩) (by rw [(nd_eq hn.1).2]; omega)
    rw [(nd_eq hn.1).1, (nd_eq hn.1).2, pSz_nd hn.1] at this
    unfold pIn
    omega
theorem arF_step {L : List (Int × Int)} {b v : Int} (h : ∀ q ∈ L, pIn q.1 v → q.1 % 64 ≠ b) : arF L (b + 1) v = arF L b v := by
  refine arF_congr (fun q hq => ⟨fun h1 => ⟨?_, h1.2⟩, fun h1 => ⟨by omega, h1.2⟩⟩)
  have := h q hq h1.2
  omega
/-- a node without a route of its own -/
theorem arF_none {L : List (Int × Int)} (hL : lOk L) {d : Nat} {v : Int} (hn : ndOk d v) (h : ∀ q ∈ L, rIn d v q = true → q.1 % 64 ≠ 32 - d) : arF L (33 - d) v = arF L (32 - d) v := by
  rw [show (33 : Int) - d = (32 - d) + 1 by omega]
  refine arF_step (fun q hq hi e => ?_)
  exact h q hq (rPr_of hL hn hq hi (by omega)).2 e
theorem arF_own {L : List (Int × Int)} (hL : lOk L) {b v : Int} {i : Nat} (hi : i < L.length) (hin : pIn (kAt L i) v) (hb : kN L i = b) : arF L (b + 1) v = vAt L i := by
  unfold arF
  have e : L = L.take i ++ (kAt L i, vAt L i) :: L.drop (i + 1) := by
    have := (List.getElem?_eq_some_iff.mp (kAt_get hi)).2
    rw [← this, List.getElem_cons_drop, List.take_append_drop]
  have hnone : List.find? (fun q => decide (q.1 % 64 < b + 1) && pInB q.1 v) (L.drop (i + 1)).reverse = none := by
    rw [List.find?_eq_none]
    intro s hs
    obtain ⟨j, hj⟩ := List.getElem?_of_mem (List.mem_reverse.mp hs)
    rw [List.getElem?_drop] at hj
    have hj2 := (List.getElem?_eq_some_iff.mp hj).1
    rw [Bool.and_eq_true, decide_eq_true_eq, pInB_iff, ← (kAt_of hj).1]
    rintro ⟨h1, h2⟩
    have := (kIn_nest hL (show i < i + 1 + j by omega) hj2 hin h2).1
    unfold kN at this hb
    omega
  have hyes : (decide (kAt L i % 64 < b + 1) && pInB (kAt L i) v) = true := by
    rw [Bool.and_eq_true, decide_eq_true_eq, pInB_iff]
    unfold kN at hb
    exact ⟨by omega, hin⟩
  have er : L.reverse = (L.drop (i + 1)).reverse ++ ([(kAt L i, vAt L i)] ++ (L.take i).reverse) := by
    conv => lhs; rw [e]
    rw [List.reverse_append, List.reverse_cons, List.append_assoc]
  rw [er, List.find?_append, hnone]
  simp [hyes]
def comb (a b : Nat) : Nat := if a &&& b = 0 then a ||| b else a &&& b
def tS (L : List (Int × Int)) : Nat → Int → Nat
  | 0, v => 2 ^ (ansOf L v).toNat
  | d + 1, v => if hR L (d + 1) v = true then comb (tS L d v) (tS L d (v + 2 ^ d)) else 2 ^ (ansOf L v).toNat
noncomputable def lo (s : Nat) : Nat := by
  classical
  exact if h : ∃ k, s.testBit k = true then Classical.choose (least_of (P := fun k => s.testBit k = true) (Classical.choose h) (Classical.choose_spec h)) else 0
theorem lo_spec {s k : Nat} (h : s.testBit k = true) : s.testBit (lo s) = true ∧ ∀ j, j < lo s → s.testBit j = false := by
  have hex : ∃ k, s.testBit k = true := ⟨k, h⟩
  unfold lo
  rw [dif_pos hex]
  have := Classical.choose_spec (least_of (P := fun k => s.testBit k = true) (Classical.choose hex) (Classical.choose_spec hex))
  refine ⟨this.2.1, fun j hj => ?_⟩
  have h2 := this.2.2 j hj
  simpa using h2
theorem lo_uniq {s k : Nat} (h : s.testBit k = true) (h2 : ∀ j, j < k → s.testBit j = false) : lo s = k := by
  have h3 := lo_spec h
  rcases Nat.lt_trichotomy (lo s) k with c | c | c
  · rw [h2 _ c] at h3
    exact absurd h3.1 (by decide)
  · exact c
  · rw [h3.2 k c] at h
    cases h
theorem comb_bit {a b k : Nat} : (comb a b).testBit k = if a &&& b = 0 then (a.testBit k || b.testBit k) else (a.testBit k && b.testBit k) := by
  unfold comb
  split
  · rw [Nat.testBit_or]
  · rw [Nat.testBit_and]
theorem and_dis {a b : Nat} (h : a &&& b = 0) (k : Nat) : ¬ (a.testBit k = true ∧ b.testBit k = true) := by
  rintro ⟨h1, h2⟩
  have : (a &&& b).testBit k = true := by rw [Nat.testBit_and, h1, h2]; rfl
  rw [h, Nat.zero_testBit] at this
  cases this
theorem ne_bit {a : Nat} (h : a ≠ 0) : ∃ k, a.testBit k = true := Nat.exists_testBit_of_ne_zero h
def hop15 (L : List (Int × Int)) : Prop := ∀ q ∈ L, 0 ≤ q.2 ∧ q.2 ≤ 15
theorem ans15 {L : List (Int × Int)} (h : hop15 L) (v : Int) : 0 ≤ ansOf L v ∧ ansOf L v ≤ 15 := by
  unfold ansOf
  split
  · next q hq => exact h q (lmatch_mem hq)
  · omega
theorem tS_ok {L : List (Int × Int)} (h : hop15 L) : ∀ (d : Nat) (v : Int), tS L d v ≠ 0 ∧ tS L d v < 65536 := by
  have leaf : ∀ v, (2 : Nat) ^ (ansOf L v).toNat ≠ 0 ∧ 2 ^ (ansOf L v).toNat < 65536 := fun v => by
    have := ans15 h v
    refine ⟨Nat.ne_of_gt (Nat.pow_pos (by omega)), ?_⟩
    exact Nat.lt_of_le_of_lt (Nat.pow_le_pow_right (by omega) (show (ansOf L v).toNat ≤ 15 by omega)) (by decide)
  intro d
  induction d with
  | zero => intro v; rw [tS]; exact leaf v
  | succ d ih =>
    intro v
    rw [tS]
    split
    · have h1 := ih v
      have h2 := ih (v + 2 ^ d)
      unfold comb
      split
      · refine ⟨fun e => h1.1 ?_, Nat.or_lt_two_pow (n := 16) h1.2 h2.2⟩
        have := Nat.left_le_or (n := tS L d v) (m := tS L d (v + 2 ^ d))
        omega
      · next c => exact ⟨c, Nat.and_lt_two_pow (n := 16) _ h2.2⟩
    · exact leaf v
theorem bit16 {s k : Nat} (h : s < 65536) (hb : s.testBit k = true) : k < 16 := by
  by_cases c : k < 16
  · exact c
  · rw [Nat.testBit_lt_two_pow (Nat.lt_of_lt_of_le h (by
      have : 2 ^ 16 ≤ 2 ^ k := Nat.pow_le_pow_right (by omega) (by omega)
      exact this))] at hb
    cases hb
theorem tS_lo {L : List (Int × Int)} (h : hop15 L) (d : Nat) (v : Int) : (tS L d v).testBit (lo (tS L d v)) = true ∧ lo (tS L d v) < 16 := by
  obtain ⟨k, hk⟩ := ne_bit (tS_ok h d v).1
  have := (lo_spec hk).1
  exact ⟨this, bit16 (tS_ok h d v).2 this⟩
noncomputable def eH (s h : Nat) : Nat := if s.testBit h = true then h else lo s
noncomputable def eL (k : Int) (s h : Nat) : List (Int × Int) := if s.testBit h = true then [] else [(k, (lo s : Int))]
noncomputable def tE (L : List (Int × Int)) : Nat → Int → Nat → List (Int × Int)
  | 0, v, h => eL (64 * v + 32) (tS L 0 v) h
  | d + 1, v, h => eL (64 * v + (32 - ((d + 1 : Nat) : Int))) (tS L (d + 1) v) h ++ if hR L (d + 1) v = true then tE L d v (eH (tS L (d + 1) v) h) ++ tE L d (v + 2 ^ d) (eH (tS L (d + 1) v) h) else []
theorem eH_bit {L : List (Int × Int)} (hh : hop15 L) (d : Nat) (v : Int) (h : Nat) : (tS L d v).testBit (eH (tS L d v) h) = true := by
  unfold eH
  split
  · assumption
  · exact (tS_lo hh d v).1
def tM (L : List (Int × Int)) : Nat → Int → Nat
  | 0, _ => 0
  | d + 1, v => if hR L (d + 1) v = true then tM L d v + tM L d (v + 2 ^ d) + (if tS L d v &&& tS L d (v + 2 ^ d) = 0 then 1 else 0) else 0
theorem tE_len {L : List (Int × Int)} (hh : hop15 L) : ∀ (d : Nat) (v : Int) (h : Nat), (tE L d v h).length = tM L d v + if (tS L d v).testBit h = true then 0 else 1 := by
  have hel : ∀ k s h, (eL k s h).length = if s.testBit h = true then 0 else 1 := fun k s h => by unfold eL; split <;> rfl
  intro d
  induction d with
  | zero => intro v h; rw [tE, hel, tM]; omega
  | succ d ih =>
    intro v h
    rw [tE, List.length_append, hel, tM]
    by_cases c : hR L (d + 1) v = true
    · rw [if_pos c, if_pos c, List.length_append, ih, ih]
      have hb := eH_bit hh (d + 1) v h
      generalize eH (tS L (d + 1) v) h = h' at hb
      rw [tS, if_pos c, comb_bit] at hb
      by_cases e : tS L d v &&& tS L d (v + 2 ^ d) = 0
      · rw [if_pos e] at hb ⊢
        have := and_dis e h'
        by_cases q1 : (tS L d v).testBit h' = true
        · rw [if_pos q1, if_neg (fun q2 => this ⟨q1, q2⟩)]
          omega
        · rw [if_neg q1]
          rw [Bool.or_eq_true] at hb
          rw [if_pos (hb.resolve_left q1)]
          omega
      · rw [if_neg e] at hb ⊢
        rw [Bool.and_eq_true] at hb
        rw [if_pos hb.1, if_pos hb.2]
        omega
    · rw [if_neg c, if_neg c]
      simp
theorem cnt_add {α : Type} {p p1 p2 : α → Bool} : ∀ (l : List α), (∀ x ∈ l, p1 x = true → p x = true) → (∀ x ∈ l, p2 x = true → p x = true) → (∀ x ∈ l, ¬ (p1 x = true ∧ p2 x = true)) → l.countP p1 + l.countP p2 ≤ l.countP p
  | [], _, _, _ => by simp
  | x :: l, h1, h2, h3 => by
    have := cnt_add l (fun y hy => h1 y (List.mem_cons_of_mem _ hy)) (fun y hy => h2 y (List.mem_cons_of_mem _ hy)) (fun y hy => h3 y (List.mem_cons_of_mem _ hy))
    have a1 := h1 x List.mem_cons_self
    have a2 := h2 x List.mem_cons_self
    have a3 := h3 x List.mem_cons_self
    rw [List.countP_cons, List.countP_cons, List.countP_cons]
    by_cases c1 : p1 x = true
    · rw [if_pos c1, if_pos (a1 c1), if_neg (fun c2 => a3 ⟨c1, c2⟩)]
      omega
    · rw [if_neg c1]
      by_cases c2 : p2 x = true
      · rw [if_pos c2, if_pos (a2 c2)]
        omega
      · rw [if_neg c2]
        split <;> omega
/-- a route of a node's own -/
def rEq (d : Nat) (v : Int) (q : Int × Int) : Bool := rIn d v q && decide (q.1 % 64 = 32 - d)
theorem cnt_eq {L : List (Int × Int)} {d : Nat} {v : Int} : L.countP (rPr d v) + L.countP (rEq d v) ≤ L.countP (rIn d v) := by
  refine cnt_add L (fun q _ h => ?_) (fun q _ h => ?_) (fun q _ h => ?_)
  · have := rPr_iff.mp h
    exact rIn_iff.mpr ⟨this.1, this.2.1, by omega⟩
  · unfold rEq at h
    rw [Bool.and_eq_true] at h
    exact h.1
  · unfold rEq at h
    rw [Bool.and_eq_true, decide_eq_true_eq, rPr_iff] at h
    omega
theorem cnt_half {L : List (Int × Int)} {d : Nat} {v : Int} : L.countP (rIn d v) + L.countP (rIn d (v + 2 ^ d)) ≤ L.countP (rPr (d + 1) v) := by
  refine cnt_add L (fun q _ h => rPr_half.mpr (Or.inl h)) (fun q _ h => rPr_half.mpr (Or.inr h)) (fun q _ h => ?_)
  rw [rIn_iff, rIn_iff] at h
  omega
/-- the set of a node without routes inside -/
theorem tS_leaf {L : List (Int × Int)} (hL : lOk L) {d : Nat} {v : Int} (hn : ndOk d v) (hh : ¬ hR L d v = true) : tS L d v = 2 ^ (arF L (33 - d) v).toNat := by
  rw [← ans_leaf hL hn hh]
  cases d with
  | zero => rw [tS]
  | succ d => rw [tS, if_neg hh]
theorem hR_0 {L : List (Int × Int)} (hL : lOk L) (v : Int) : ¬ hR L 0 v = true := by
  rw [hR_no]
  intro q hq h
  have := (rPr_iff.mp h).2.2
  have := (hL.1 q hq).1.2.1
  omega
theorem pow_bit (a k : Nat) : (2 ^ a).testBit k = true ↔ k = a := by
  rw [Nat.testBit_two_pow]
  simp only [decide_eq_true_eq]
  exact eq_comm
theorem tM_le {L : List (Int × Int)} (hL : lOk L) : ∀ (d : Nat) (v : Int), ndOk d v → tM L d v + (if (tS L d v).testBit (arF L (33 - d) v).toNat = true then 0 else 1) ≤ L.countP (rPr d v) := by
  intro d
  induction d with
  | zero =>
    intro v hn
    rw [tS_leaf hL hn (hR_0 hL v), if_pos ((pow_bit _ _).mpr rfl), tM]
    omega
  | succ d ih =>
    intro v hn
    by_cases c : hR L (d + 1) v = true
    · have key : ∀ w, ndOk d w → arF L (32 - d) w = arF L (33 - ((d + 1 : Nat) : Int)) v → tM L d w + (if (tS L d w).testBit (arF L (33 - ((d + 1 : Nat) : Int)) v).toNat = true then 0 else 1) ≤ L.countP (rIn d w) := by
        intro w hw ea
        have h1 := ih w hw
        have h2 := cnt_eq (L := L) (d := d) (v := w)
        by_cases e : ∃ q ∈ L, rIn d w q = true ∧ q.1 % 64 = 32 - d
        · obtain ⟨q, q1, q2, q3⟩ := e
          have h3 : 0 < L.countP (rEq d w) := List.countP_pos_iff.mpr ⟨q, q1, by unfold rEq; rw [q2, decide_eq_true q3]; rfl⟩
          split <;> split at h1 <;> omega
        · have h3 := arF_none hL hw (fun q q1 q2 q3 => e ⟨q, q1, q2, q3⟩)
          rw [h3, ea] at h1
          omega
      have hp := p2_pos d
      have hs := p2_succ d
      have hl := key v (nd_left hn) (by rw [show (33 : Int) - ((d + 1 : Nat) : Int) = 32 - d by push_cast; omega])
      have hr := key (v + 2 ^ d) (nd_right hn) (by
        have := arF_in hL hn (x := v + 2 ^ d) ⟨by omega, by omega⟩
        rw [← this, show (33 : Int) - ((d + 1 : Nat) : Int) = 32 - d by push_cast; omega])
      have hc := cnt_half (L := L) (d := d) (v := v)
      generalize (arF L (33 - ((d + 1 : Nat) : Int)) v).toNat = a at hl hr ⊢
      rw [tM, if_pos c, tS, if_pos c, comb_bit]
      by_cases e : tS L d v &&& tS L d (v + 2 ^ d) = 0
      · rw [if_pos e, if_pos e]
        have hd := and_dis e a
        by_cases q1 : (tS L d v).testBit a = true
        · rw [if_neg (fun q2 => hd ⟨q1, q2⟩)] at hr
          rw [if_pos (by rw [q1]; rfl)]
          omega
        · rw [if_neg q1] at hl
          by_cases q2 : (tS L d (v + 2 ^ d)).testBit a = true
          · rw [if_pos (by rw [q2, Bool.or_true])]
            omega
          · rw [if_neg q2] at hr
            split <;> omega
      · rw [if_neg e, if_neg e]
        by_cases q1 : (tS L d v).testBit a = true
        · by_cases q2 : (tS L d (v + 2 ^ d)).testBit a = true
          · rw [if_pos (by rw [q1, q2]; rfl)]
            omega
          · rw [if_neg q2] at hr
            split <;> omega
        · rw [if_neg q1] at hl
          split <;> omega
    · rw [tS_leaf hL hn c, if_pos ((pow_bit _ _).mpr rfl), tM, if_neg c]
      omega
theorem tE_few {L : List (Int × Int)} (hL : lOk L) (hh : hop15 L) : (tE L 32 0 0).length ≤ L.length := by
  have h1 := tM_le hL 32 0 nd_root
  have h2 := cnt_eq (L := L) (d := 32) (v := 0)
  have h3 : L.countP (rIn 32 0) ≤ L.length := List.countP_le_length
  rw [tE_len hh]
  by_cases e : ∃ q ∈ L, rIn 32 0 q = true ∧ q.1 % 64 = 32 - ((32 : Nat) : Int)
  · obtain ⟨q, q1, q2, q3⟩ := e
    have h4 : 0 < L.countP (rEq 32 0) := List.countP_pos_iff.mpr ⟨q, q1, by unfold rEq; rw [q2, decide_eq_true q3]; rfl⟩
    split <;> split at h1 <;> omega
  · have h4 := arF_none hL nd_root (fun q q1 q2 q3 => e ⟨q, q1, q2, q3⟩)
    have h5 : arF L (32 - ((32 : Nat) : Int)) 0 = 0 := by
      unfold arF
      have : L.reverse.find? (fun q => decide (q.1 % 64 < 32 - ((32 : Nat) : Int)) && pInB q.1 0) = none := by
        rw [List.find?_eq_none]
        intro q hq
        rw [Bool.and_eq_true, decide_eq_true_eq]
        rintro ⟨q1, -⟩
        have := (hL.1 q (List.mem_reverse.mp hq)).1.1
        omega
      rw [this]
    rw [h4, h5] at h1
    rw [show (0 : Int).toNat = 0 from rfl] at h1
    omega
