/-! PURE: nodes that can be left out; order; the number of nodes -/
noncomputable def tRest (L : List (Int × Int)) : Nat → Int → Nat → List (Int × Int)
  | 0, _, _ => []
  | d + 1, v, h => if hR L (d + 1) v = true then tE L d v h ++ tE L d (v + 2 ^ d) h else []
theorem tE_eq (L : List (Int × Int)) (d : Nat) (v : Int) (h : Nat) : tE L d v h = eL (64 * v + (32 - (d : Int))) (tS L d v) h ++ tRest L d v (eH (tS L d v) h) := by
  cases d with
  | zero =>
    rw [tE, tRest, List.append_nil]
    rfl
  | succ d => rw [tE, tRest]
theorem tE_bit {L : List (Int × Int)} {d : Nat} {v : Int} {h : Nat} (hb : (tS L d v).testBit h = true) : tE L d v h = tRest L d v h := by
  rw [tE_eq]
  unfold eL eH
  rw [if_pos hb, if_pos hb]
  rfl
theorem and_pow (s a : Nat) : s &&& 2 ^ a = if s.testBit a = true then 2 ^ a else 0 := by
  apply Nat.eq_of_testBit_eq
  intro i
  rw [Nat.testBit_and, Nat.testBit_two_pow]
  by_cases c : a = i
  · subst c
    by_cases e : s.testBit a = true
    · rw [if_pos e, e, Nat.testBit_two_pow]; simp
    · rw [if_neg e, Nat.zero_testBit]
      simp at e
      rw [e]
      rfl
  · rw [decide_eq_false c, Bool.and_false]
    split
    · rw [Nat.testBit_two_pow, decide_eq_false c]
    · rw [Nat.zero_testBit]
theorem comb_comm (a b : Nat) : comb a b = comb b a := by unfold comb; rw [Nat.and_comm, Nat.or_comm]
theorem comb_pow (s a : Nat) : (comb s (2 ^ a)).testBit a = true ∧ (s.testBit a = true → comb s (2 ^ a) = 2 ^ a) := by
  have hp : (2 : Nat) ^ a ≠ 0 := Nat.ne_of_gt (Nat.pow_pos (by omega))
  by_cases c : s.testBit a = true
  · have e : comb s (2 ^ a) = 2 ^ a := by
      unfold comb
      rw [and_pow, if_pos c, if_neg hp]
    exact ⟨by rw [e]; exact (pow_bit a a).mpr rfl, fun _ => e⟩
  · refine ⟨?_, fun q => absurd q c⟩
    unfold comb
    rw [and_pow, if_neg c, if_pos rfl, Nat.testBit_or, (pow_bit a a).mpr rfl, Bool.or_true]
theorem no_leaf {L : List (Int × Int)} (hL : lOk L) {d : Nat} {v : Int} (hn : ndOk d v) (h : ∀ q ∈ L, ¬ rIn d v q = true) : tS L d v = 2 ^ (arF L (32 - d) v).toNat ∧ tE L d v (arF L (32 - d) v).toNat = [] := by
  have hh : ¬ hR L d v = true := hR_no.mpr (fun q hq hp => h q hq (rIn_iff.mpr (by have := rPr_iff.mp hp; omega)))
  have e := tS_leaf hL hn hh
  rw [arF_none hL hn (fun q hq hp => absurd hp (h q hq))] at e
  refine ⟨e, ?_⟩
  rw [tE_bit (by rw [e]; exact (pow_bit _ _).mpr rfl)]
  cases d with
  | zero => rfl
  | succ d => rw [tRest, if_neg hh]
theorem nd_sub {d dq : Nat} {v w : Int} (hn : ndOk d v) (hq : ndOk dq w) (hd : dq ≤ d) (h1 : v ≤ w) (h2 : w < v + 2 ^ d) : w + 2 ^ dq ≤ v + 2 ^ d := by
  have hp := p2_pos dq
  have := pk_inn hn.2 hq.2 ((nd_in hn.1).mpr ⟨h1, h2⟩) ((nd_in hq.1).mpr ⟨Int.le_refl w, by omega⟩) (by rw [(nd_eq hn.1).2, (nd_eq hq.1).2]; omega)
  rw [(nd_eq hn.1).1, (nd_eq hn.1).2, (nd_eq hq.1).1, (nd_eq hq.1).2, pSz_nd hn.1, pSz_nd hq.1] at this
  exact this.2
theorem nd_same {d : Nat} {v w : Int} (hn : ndOk d v) (hq : ndOk d w) (h1 : v ≤ w) (h2 : w < v + 2 ^ d) : w = v := by
  have := nd_sub hn hq (Nat.le_refl d) h1 h2
  omega
theorem tchain {L : List (Int × Int)} (hL : lOk L) : ∀ (d : Nat) (v : Int) (dq : Nat) (w : Int), ndOk d v → ndOk dq w → dq < d → v ≤ w → w < v + 2 ^ d → (∀ q ∈ L, rPr d v q = true → rIn dq w q = true) → hR L d v = true →
    (tS L d v).testBit (arF L (33 - d) v).toNat = true ∧ tRest L d v (arF L (33 - d) v).toNat = tE L dq w (arF L (33 - d) v).toNat ∧ (dq + 2 ≤ d → tS L d v = 2 ^ (arF L (33 - d) v).toNat) := by
  intro d
  induction d with
  | zero => intro v dq w _ _ h; omega
  | succ d ih =>
    intro v dq w hn hq hd h1 h2 hall hhr
    have hp := p2_pos d
    have hpq := p2_pos dq
    have hs := p2_succ d
    have e33 : (33 : Int) - ((d + 1 : Nat) : Int) = 32 - d := by push_cast; omega
    have hright : arF L (32 - d) (v + 2 ^ d) = arF L (32 - d) v := by
      have := arF_in hL hn (x := v + 2 ^ d) ⟨by omega, by omega⟩
      rw [e33] at this
      exact this
    rw [e33]
    generalize hA : arF L (32 - d) v = A at *
    have main : ∀ H O : Int, ndOk d H → ndOk d O → H ≤ w → w < H + 2 ^ d → (O + 2 ^ d ≤ H ∨ H + 2 ^ d ≤ O) → arF L (32 - d) H = A → arF L (32 - d) O = A → (∀ q ∈ L, rIn d O q = true → rPr (d + 1) v q = true) → (∀ q ∈ L, rIn d H q = true → rPr (d + 1) v q = true) → tS L d O = 2 ^ A.toNat ∧ tE L d O A.toNat = [] ∧ tE L d H A.toNat = tE L dq w A.toNat ∧ (dq + 1 ≤ d → (tS L d H).testBit A.toNat = true) := by
      intro H O nH nO w1 w2 hsep aH aO pO pH
      have hsub := nd_sub nH hq (by omega) w1 w2
      have hO := no_leaf hL nO (fun q q1 q2 => by
        have a1 := rIn_iff.mp (hall q q1 (pO q q1 q2))
        have a2 := rIn_iff.mp q2
        omega)
      rw [aO] at hO
      refine ⟨hO.1, hO.2, ?_⟩
      by_cases c : dq = d
      · subst c
        have := nd_same nH hq w1 w2
        rw [this]
        exact ⟨rfl, fun q => by omega⟩
      · have hnone := arF_none hL nH (fun q q1 q2 q3 => by
          have a1 := rIn_iff.mp (hall q q1 (pH q q1 q2))
          omega)
        have hI := ih H dq w nH hq (by omega) w1 w2 (fun q q1 q2 => hall q q1 (pH q q1 (rIn_iff.mpr (by have := rPr_iff.mp q2; omega)))) (by
          obtain ⟨q, q1, q2⟩ := hR_iff.mp hhr
          have a1 := rIn_iff.mp (hall q q1 q2)
          exact hR_iff.mpr ⟨q, q1, rPr_iff.mpr ⟨by omega, by omega, by omega⟩⟩)
        rw [hnone, aH] at hI
        exact ⟨by rw [tE_bit hI.1]; exact hI.2.1, fun _ => hI.1⟩
    by_cases c : w < v + 2 ^ d
    · obtain ⟨m1, m2, m3, m4⟩ := main v (v + 2 ^ d) (nd_left hn) (nd_right hn) h1 c (Or.inr (Int.le_refl _)) hA hright (fun q _ h => rPr_half.mpr (Or.inr h)) (fun q _ h => rPr_half.mpr (Or.inl h))
      have hcp := comb_pow (tS L d v) A.toNat
      rw [tS, if_pos hhr, m1, tRest, if_pos hhr, m2, List.append_nil]
      exact ⟨hcp.1, m3, fun q => hcp.2 (m4 (by omega))⟩
    · obtain ⟨m1, m2, m3, m4⟩ := main (v + 2 ^ d) v (nd_right hn) (nd_left hn) (by omega) (by omega) (Or.inl (Int.le_refl _)) hright hA (fun q _ h => rPr_half.mpr (Or.inl h)) (fun q _ h => rPr_half.mpr (Or.inr h))
      have hcp := comb_pow (tS L d (v + 2 ^ d)) A.toNat
      rw [tS, if_pos hhr, m1, comb_comm, tRest, if_pos hhr, m2, List.nil_append]
      exact ⟨hcp.1, m3, fun q => hcp.2 (m4 (by omega))⟩
theorem tE_srt {L : List (Int × Int)} (hh : hop15 L) : ∀ (d : Nat) (v : Int) (h : Nat), ndOk d v → (∀ q ∈ tE L d v h, 64 * v + (32 - (d : Int)) ≤ q.1 ∧ q.1 < 64 * (v + 2 ^ d) ∧ pK q.1 ∧ 0 ≤ q.2 ∧ q.2 ≤ 15) ∧ (tE L d v h).Pairwise (fun a b => a.1 < b.1) := by
  have head : ∀ (d : Nat) (v : Int) (h : Nat), ndOk d v → (∀ q ∈ eL (64 * v + (32 - (d : Int))) (tS L d v) h, q.1 = 64 * v + (32 - (d : Int)) ∧ 64 * v + (32 - (d : Int)) < 64 * (v + 2 ^ d) ∧ pK q.1 ∧ 0 ≤ q.2 ∧ q.2 ≤ 15) ∧ (eL (64 * v + (32 - (d : Int))) (tS L d v) h).Pairwise (fun a b => a.1 < b.1) := by
    intro d v h hn
    unfold eL
    split
    · exact ⟨fun q hq => absurd hq (by simp), List.Pairwise.nil⟩
    · refine ⟨fun q hq => ?_, List.pairwise_singleton _ _⟩
      rw [List.mem_singleton] at hq
      subst hq
      have := (tS_lo hh d v).2
      have hp := p2_pos d
      exact ⟨rfl, by omega, hn.2, by simp only; omega, by simp only; omega⟩
  intro d
  induction d with
  | zero =>
    intro v h hn
    have hd := head 0 v h hn
    rw [tE_eq, tRest, List.append_nil]
    exact ⟨fun q hq => by have := hd.1 q hq; exact ⟨by omega, by omega, this.2.2⟩, hd.2⟩
  | succ d ih =>
    intro v h hn
    have hd := head (d + 1) v h hn
    have hp := p2_pos d
    have hs := p2_succ d
    rw [tE_eq, tRest]
    generalize eH (tS L (d + 1) v) h = h'
    by_cases c : hR L (d + 1) v = true
    · rw [if_pos c]
      have i1 := ih v h' (nd_left hn)
      have i2 := ih (v + 2 ^ d) h' (nd_right hn)
      constructor
      · intro q hq
        rw [List.mem_append, List.mem_append] at hq
        rcases hq with hq | hq | hq
        · have := hd.1 q hq; exact ⟨by omega, by omega, this.2.2⟩
        · have := i1.1 q hq; exact ⟨by push_cast; omega, by omega, this.2.2⟩
        · have := i2.1 q hq; exact ⟨by push_cast; omega, by omega, this.2.2⟩
      · rw [List.pairwise_append, List.pairwise_append]
        refine ⟨hd.2, ⟨i1.2, i2.2, fun a ha b hb => ?_⟩, fun a ha b hb => ?_⟩
        · have := i1.1 a ha
          have := i2.1 b hb
          have hd32 := hn.1
          omega
        · have a1 := (hd.1 a ha).1
          rw [List.mem_append] at hb
          rcases hb with hb | hb
          · have := i1.1 b hb
            push_cast at a1
            omega
          · have := i2.1 b hb
            push_cast at a1
            omega
    · rw [if_neg c, List.append_nil]
      exact ⟨fun q hq => by have := hd.1 q hq; exact ⟨by omega, by omega, this.2.2⟩, hd.2⟩
/-- the table of fewest entries -/
noncomputable def ortc (L : List (Int × Int)) : List (Int × Int) := tE L 32 0 0
theorem ortc_ok {L : List (Int × Int)} (hL : lOk L) (hh : hop15 L) : lOk (ortc L) ∧ hop15 (ortc L) ∧ (ortc L).length ≤ L.length := by
  have := tE_srt hh 32 0 0 nd_root
  refine ⟨⟨fun q hq => ?_, this.2⟩, fun q hq => ?_, tE_few hL hh⟩
  · have := this.1 q hq
    exact ⟨this.2.2.1, this.2.2.2.1, by omega⟩
  · have := this.1 q hq
    exact this.2.2.2
def tN (L : List (Int × Int)) : Nat → Int → Nat
  | 0, _ => 1
  | d + 1, v => if hR L (d + 1) v = true then 1 + tN L d v + tN L d (v + 2 ^ d) else 1
theorem tN_pos (L : List (Int × Int)) : ∀ (d : Nat) (v : Int), 1 ≤ tN L d v
  | 0, _ => Nat.le_refl 1
  | d + 1, v => by rw [tN]; split <;> omega
def wgt (d : Nat) (v : Int) (q : Int × Int) : Nat := if rPr d v q = true then (q.1 % 64 + d - 32).toNat else 0
theorem wgt_sum {d : Nat} {v : Int} : ∀ (l : List (Int × Int)), (l.map (wgt d v)).sum + (l.map (wgt d (v + 2 ^ d))).sum + l.countP (rPr (d + 1) v) ≤ (l.map (wgt (d + 1) v)).sum
  | [] => by simp
  | q :: l => by
    have h := wgt_sum (d := d) (v := v) l
    have h1 : wgt d v q + wgt d (v + 2 ^ d) q + (if rPr (d + 1) v q = true then 1 else 0) ≤ wgt (d + 1) v q := by
      by_cases c : rPr (d + 1) v q = true
      · unfold wgt
        rw [if_pos c, if_pos c]
        have := rPr_iff.mp c
        by_cases e1 : rPr d v q = true
        · rw [if_pos e1]
          have a1 := rPr_iff.mp e1
          rw [if_neg (fun e2 => by have a2 := rPr_iff.mp e2; omega)]
          push_cast
          omega
        · rw [if_neg e1]
          by_cases e2 : rPr d (v + 2 ^ d) q = true
          · rw [if_pos e2]
            push_cast
            omega
          · rw [if_neg e2]
            push_cast at *
            omega
      · have n1 : ¬ rPr d v q = true := fun e => c (rPr_half.mpr (Or.inl (rIn_iff.mpr (by have := rPr_iff.mp e; omega))))
        have n2 : ¬ rPr d (v + 2 ^ d) q = true := fun e => c (rPr_half.mpr (Or.inr (rIn_iff.mpr (by have := rPr_iff.mp e; omega))))
        unfold wgt
        rw [if_neg n1, if_neg n2, if_neg c, if_neg c]
        omega
    simp only [List.map_cons, List.sum_cons, List.countP_cons]
    omega
theorem tN_le (L : List (Int × Int)) : ∀ (d : Nat) (v : Int), tN L d v ≤ 1 + 2 * (L.map (wgt d v)).sum
  | 0, _ => by rw [tN]; omega
  | d + 1, v => by
    rw [tN]
    split
    · next c =>
      have h1 := tN_le L d v
      have h2 := tN_le L d (v + 2 ^ d)
      have h3 := wgt_sum (d := d) (v := v) L
      obtain ⟨q, q1, q2⟩ := hR_iff.mp c
      have h4 : 0 < L.countP (rPr (d + 1) v) := List.countP_pos_iff.mpr ⟨q, q1, q2⟩
      omega
    · omega
theorem wgt_root : ∀ (l : List (Int × Int)), (∀ q ∈ l, pK q.1) → (l.map (wgt 32 0)).sum ≤ 32 * l.length
  | [], _ => by simp
  | q :: l, h => by
    have h1 := wgt_root l (fun x hx => h x (List.mem_cons_of_mem _ hx))
    have h2 := (h q List.mem_cons_self).2.1
    have h3 : wgt 32 0 q ≤ 32 := by
      unfold wgt
      split <;> omega
    simp only [List.map_cons, List.sum_cons, List.length_cons]
    omega
theorem tN_root {L : List (Int × Int)} (hL : lOk L) (h60 : L.length ≤ 60) : tN L 32 0 ≤ 3841 := by
  have h1 := tN_le L 32 0
  have h2 := wgt_root L (fun q hq => (hL.1 q hq).1)
  omega
