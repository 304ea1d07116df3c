/-! PURE: choices of entries. A choice is a list of (entry, is it kept?) -/
def cF (n : Nat) (par : Nat → Int) : Nat → Int → Nat → Nat → List (Nat × Bool) → Prop
  | 0, _, _, p, D => p = 0 ∧ D = []
  | m + 1, e, k, p, D => if par (n - (m + 1)) = e then ∃ p1 D1 p2 D2, cF n par m e k p1 D1 ∧ ((cF n par m ((n - (m + 1) : Nat) : Int) 1 p2 D2 ∧ p = p1 + (p2 + 1) ∧ D = ((n - (m + 1), true) :: D2) ++ D1) ∨ (cF n par m ((n - (m + 1) : Nat) : Int) 0 p2 D2 ∧ p = p1 + (p2 + k) ∧ D = ((n - (m + 1), false) :: D2) ++ D1)) else cF n par m e k p D
/-- one entry with all inside it -/
def cO (n : Nat) (par : Nat → Int) (m : Nat) (i k p : Nat) (D : List (Nat × Bool)) : Prop := ∃ p2 D2, (cF n par m (i : Int) 1 p2 D2 ∧ p = p2 + 1 ∧ D = (i, true) :: D2) ∨ (cF n par m (i : Int) 0 p2 D2 ∧ p = p2 + k ∧ D = (i, false) :: D2)
theorem cF_hit {n : Nat} {par : Nat → Int} {m : Nat} {e : Int} {k p : Nat} {D : List (Nat × Bool)} (h : par (n - (m + 1)) = e) : cF n par (m + 1) e k p D ↔ ∃ p1 D1 p2 D2, cF n par m e k p1 D1 ∧ cO n par m (n - (m + 1)) k p2 D2 ∧ p = p1 + p2 ∧ D = D2 ++ D1 := by
  rw [cF, if_pos h]
  constructor
  · rintro ⟨p1, D1, p2, D2, h1, ⟨h2, h3, h4⟩ | ⟨h2, h3, h4⟩⟩
    · exact ⟨p1, D1, p2 + 1, _, h1, ⟨p2, D2, Or.inl ⟨h2, rfl, rfl⟩⟩, h3, h4⟩
    · exact ⟨p1, D1, p2 + k, _, h1, ⟨p2, D2, Or.inr ⟨h2, rfl, rfl⟩⟩, h3, h4⟩
  · rintro ⟨p1, D1, q, D2, h1, ⟨p2, D3, ⟨h2, h3, h4⟩ | ⟨h2, h3, h4⟩⟩, h5, h6⟩
    · exact ⟨p1, D1, p2, D3, h1, Or.inl ⟨h2, by omega, by rw [h6, h4]⟩⟩
    · exact ⟨p1, D1, p2, D3, h1, Or.inr ⟨h2, by omega, by rw [h6, h4]⟩⟩
theorem cF_miss {n : Nat} {par : Nat → Int} {m : Nat} {e : Int} {k p : Nat} {D : List (Nat × Bool)} (h : par (n - (m + 1)) ≠ e) : cF n par (m + 1) e k p D ↔ cF n par m e k p D := by rw [cF, if_neg h]
def hD (ht : Nat → Int) (D : List (Nat × Bool)) : Int := (D.map (fun x => if x.2 = true then ht x.1 else 0)).sum
def lD (ht : Nat → Int) (D : List (Nat × Bool)) : Int := (D.map (fun x => if x.2 = true then 0 else ht x.1)).sum
def bD : List (Nat × Bool) → Nat
  | [] => 0
  | x :: D => (if x.2 = true then 2 ^ (59 - x.1) else 0) ||| bD D
theorem hD_app (ht : Nat → Int) (D E : List (Nat × Bool)) : hD ht (D ++ E) = hD ht D + hD ht E := by unfold hD; rw [List.map_append, List.sum_append]
theorem lD_app (ht : Nat → Int) (D E : List (Nat × Bool)) : lD ht (D ++ E) = lD ht D + lD ht E := by unfold lD; rw [List.map_append, List.sum_append]
theorem bD_app : ∀ (D E : List (Nat × Bool)), bD (D ++ E) = bD D ||| bD E
  | [], E => by rw [List.nil_append, bD, Nat.zero_or]
  | x :: D, E => by rw [List.cons_append, bD, bD, bD_app D E, Nat.or_assoc]
theorem hD_nn {ht : Nat → Int} (h : ∀ i, 0 ≤ ht i) : ∀ (D : List (Nat × Bool)), 0 ≤ hD ht D ∧ 0 ≤ lD ht D
  | [] => ⟨Int.le_refl 0, Int.le_refl 0⟩
  | x :: D => by
    have h1 := hD_nn h D
    have h2 := h x.1
    unfold hD lD at *
    rw [List.map_cons, List.sum_cons, List.map_cons, List.sum_cons]
    split <;> omega
theorem hl_sum (ht : Nat → Int) : ∀ (D : List (Nat × Bool)), hD ht D + lD ht D = ((D.map (fun x => x.1)).map ht).sum
  | [] => rfl
  | x :: D => by
    have h1 := hl_sum ht D
    unfold hD lD at *
    rw [List.map_cons, List.sum_cons, List.map_cons, List.sum_cons, List.map_cons, List.map_cons, List.sum_cons]
    split <;> omega
theorem bD_bit : ∀ (D : List (Nat × Bool)) (k : Nat), (bD D).testBit k = true ↔ ∃ e, (e, true) ∈ D ∧ k = 59 - e
  | [], k => by rw [bD, Nat.zero_testBit]; simp
  | x :: D, k => by
    rw [bD, Nat.testBit_or, Bool.or_eq_true, bD_bit D k]
    obtain ⟨e, b⟩ := x
    cases b
    · simp only [Nat.zero_testBit, Bool.false_eq_true, if_false, false_or, List.mem_cons, Prod.mk.injEq, Bool.true_eq_false, and_false]
    · simp only [if_true, List.mem_cons, Prod.mk.injEq, and_true]
      rw [pow_bit]
      constructor
      · rintro (h | ⟨e', h1, h2⟩)
        · exact ⟨e, Or.inl rfl, h⟩
        · exact ⟨e', Or.inr h1, h2⟩
      · rintro ⟨e', h1 | h1, h2⟩
        · rw [h1] at h2; exact Or.inl h2
        · exact Or.inr ⟨e', h1, h2⟩
theorem or_add : ∀ (a b : Nat), (∀ k, ¬ (a.testBit k = true ∧ b.testBit k = true)) → a ||| b = a + b := by
  intro a
  induction a using Nat.strongRecOn with
  | _ a ih =>
    intro b h
    by_cases c : a = 0
    · rw [c, Nat.zero_or, Nat.zero_add]
    · have h1 := ih (a / 2) (by omega) (b / 2) (fun k q => h (k + 1) (by rw [Nat.testBit_add_one, Nat.testBit_add_one]; exact q))
      have h2 : (a ||| b) / 2 = a / 2 ||| b / 2 := Nat.or_div_two
      have h0 := h 0
      rw [Nat.testBit_zero, Nat.testBit_zero] at h0
      simp only [decide_eq_true_eq] at h0
      have h3 : (a ||| b).testBit 0 = (a.testBit 0 || b.testBit 0) := Nat.testBit_or a b 0
      rw [Nat.testBit_zero, Nat.testBit_zero, Nat.testBit_zero, Bool.eq_iff_iff, Bool.or_eq_true] at h3
      simp only [decide_eq_true_eq] at h3
      omega
/-- the entries that a choice speaks of -/
def dom (n : Nat) (par : Nat → Int) : Nat → Int → List Nat
  | 0, _ => []
  | m + 1, e => if par (n - (m + 1)) = e then (n - (m + 1)) :: (dom n par m ((n - (m + 1) : Nat) : Int) ++ dom n par m e) else dom n par m e
theorem cF_dom {n : Nat} {par : Nat → Int} : ∀ {m : Nat} {e : Int} {k p : Nat} {D : List (Nat × Bool)}, cF n par m e k p D → D.map (fun x => x.1) = dom n par m e
  | 0, e, k, p, D, h => by rw [h.2]; rfl
  | m + 1, e, k, p, D, h => by
    by_cases c : par (n - (m + 1)) = e
    · rw [dom, if_pos c]
      obtain ⟨p1, D1, p2, D2, h1, ⟨q, D3, ⟨h2, h3, h4⟩ | ⟨h2, h3, h4⟩⟩, h5, h6⟩ := (cF_hit c).mp h
      · rw [h6, h4, List.map_append, List.map_cons, cF_dom h1, cF_dom h2, List.cons_append]
      · rw [h6, h4, List.map_append, List.map_cons, cF_dom h1, cF_dom h2, List.cons_append]
    · rw [dom, if_neg c]
      exact cF_dom ((cF_miss c).mp h)
theorem cO_dom {n : Nat} {par : Nat → Int} {m i k p : Nat} {D : List (Nat × Bool)} (h : cO n par m i k p D) : D.map (fun x => x.1) = i :: dom n par m (i : Int) := by
  obtain ⟨q, D3, ⟨h2, h3, h4⟩ | ⟨h2, h3, h4⟩⟩ := h
  · rw [h4, List.map_cons, cF_dom h2]
  · rw [h4, List.map_cons, cF_dom h2]
theorem dom_ge {n : Nat} {par : Nat → Int} : ∀ {m : Nat} {e : Int} {x : Nat}, m ≤ n → x ∈ dom n par m e → n - m ≤ x ∧ x < n
  | 0, e, x, _, h => by simp [dom] at h
  | m + 1, e, x, hm, h => by
    rw [dom] at h
    split at h
    · rw [List.mem_cons, List.mem_append] at h
      rcases h with h | h | h
      · omega
      · have := dom_ge (by omega) h; omega
      · have := dom_ge (by omega) h; omega
    · have := dom_ge (by omega) h; omega
theorem dom_dis {n : Nat} {par : Nat → Int} : ∀ {m : Nat} {e e' : Int}, m ≤ n → e ≠ e' → e < ((n - m : Nat) : Int) → e' < ((n - m : Nat) : Int) → ∀ x, ¬ (x ∈ dom n par m e ∧ x ∈ dom n par m e')
  | 0, e, e', _, _, _, _, x => by simp [dom]
  | m + 1, e, e', hm, hne, he, he', x => by
    have h1 := dom_dis (n := n) (par := par) (m := m) (e := e) (e' := e') (by omega) hne (by omega) (by omega) x
    have h2 := dom_dis (n := n) (par := par) (m := m) (e := ((n - (m + 1) : Nat) : Int)) (e' := e') (by omega) (by omega) (by omega) (by omega) x
    have h3 := dom_dis (n := n) (par := par) (m := m) (e := e) (e' := ((n - (m + 1) : Nat) : Int)) (by omega) (by omega) (by omega) (by omega) x
    rw [dom, dom]
    rintro ⟨a, b⟩
    split at a
    · next c =>
      rw [if_neg (fun q => hne (c.symm.trans q))] at b
      rw [List.mem_cons, List.mem_append] at a
      rcases a with a | a | a
      · have := dom_ge (show m ≤ n by omega) b; omega
      · exact h2 ⟨a, b⟩
      · exact h1 ⟨a, b⟩
    · split at b
      · rw [List.mem_cons, List.mem_append] at b
        rcases b with b | b | b
        · have := dom_ge (show m ≤ n by omega) a; omega
        · exact h3 ⟨a, b⟩
        · exact h1 ⟨a, b⟩
      · exact h1 ⟨a, b⟩
theorem dom_nodup {n : Nat} {par : Nat → Int} (hp : ∀ i, par i < i) : ∀ {m : Nat} {e : Int}, m ≤ n → e < ((n - m : Nat) : Int) → (dom n par m e).Nodup
  | 0, e, _, _ => List.nodup_nil
  | m + 1, e, hm, he => by
    rw [dom]
    split
    · next c =>
      rw [List.nodup_cons, List.mem_append, List.nodup_append]
      refine ⟨fun q => ?_, dom_nodup hp (by omega) (by omega), dom_nodup hp (by omega) (by omega), fun a ha b hb hab => ?_⟩
      · rcases q with q | q
        · have := dom_ge (show m ≤ n by omega) q; omega
        · have := dom_ge (show m ≤ n by omega) q; omega
      · rw [hab] at ha
        exact dom_dis (show m ≤ n by omega) (show ((n - (m + 1) : Nat) : Int) ≠ e by omega) (by omega) (by omega) b ⟨ha, hb⟩
    · exact dom_nodup hp (by omega) (by omega)
theorem nodup_len : ∀ (n : Nat) (l : List Nat), l.Nodup → (∀ x ∈ l, x < n) → l.length ≤ n
  | 0, l, _, h => by
    cases l with
    | nil => exact Nat.le_refl 0
    | cons x l => exact absurd (h x List.mem_cons_self) (Nat.not_lt_zero x)
  | n + 1, l, hd, h => by
    have h1 := nodup_len n (l.erase n) (hd.erase n) (fun x hx => by
      have := (hd.mem_erase_iff).mp hx
      have := h x this.2
      omega)
    by_cases c : n ∈ l
    · rw [List.length_erase_of_mem c] at h1
      omega
    · rw [List.erase_of_not_mem c] at h1
      omega
theorem dom_len {n : Nat} {par : Nat → Int} (hp : ∀ i, par i < i) {m : Nat} {e : Int} (hm : m ≤ n) (he : e < ((n - m : Nat) : Int)) : (dom n par m e).length ≤ n := nodup_len n _ (dom_nodup hp hm he) (fun _ hx => (dom_ge hm hx).2)
theorem cF_le {n : Nat} {par : Nat → Int} : ∀ {m : Nat} {e : Int} {k p : Nat} {D : List (Nat × Bool)}, k ≤ 1 → cF n par m e k p D → p ≤ (dom n par m e).length
  | 0, e, k, p, D, _, h => by rw [h.1]; exact Nat.zero_le _
  | m + 1, e, k, p, D, hk, h => by
    by_cases c : par (n - (m + 1)) = e
    · rw [dom, if_pos c, List.length_cons, List.length_append]
      obtain ⟨p1, D1, p2, D2, h1, ⟨q, D3, ⟨h2, h3, h4⟩ | ⟨h2, h3, h4⟩⟩, h5, h6⟩ := (cF_hit c).mp h
      · have := cF_le hk h1
        have := cF_le (Nat.le_refl 1) h2
        omega
      · have := cF_le hk h1
        have := cF_le (Nat.zero_le 1) h2
        omega
    · rw [dom, if_neg c]
      exact cF_le hk ((cF_miss c).mp h)
theorem cO_le {n : Nat} {par : Nat → Int} {m i k p : Nat} {D : List (Nat × Bool)} (hk : k ≤ 1) (h : cO n par m i k p D) : p ≤ (dom n par m (i : Int)).length + 1 := by
  obtain ⟨q, D3, ⟨h2, h3, h4⟩ | ⟨h2, h3, h4⟩⟩ := h
  · have := cF_le (Nat.le_refl 1) h2
    omega
  · have := cF_le (Nat.zero_le 1) h2
    omega
theorem cF_none {n : Nat} {par : Nat → Int} : ∀ (m : Nat) (e : Int), ∃ D, cF n par m e 0 0 D ∧ ∀ x ∈ D, x.2 = false
  | 0, e => ⟨[], ⟨rfl, rfl⟩, by simp⟩
  | m + 1, e => by
    obtain ⟨D1, h1, g1⟩ := cF_none (n := n) (par := par) m e
    obtain ⟨D2, h2, g2⟩ := cF_none (n := n) (par := par) m ((n - (m + 1) : Nat) : Int)
    by_cases c : par (n - (m + 1)) = e
    · refine ⟨((n - (m + 1), false) :: D2) ++ D1, (cF_hit c).mpr ⟨0, D1, 0, _, h1, ⟨0, D2, Or.inr ⟨h2, rfl, rfl⟩⟩, rfl, rfl⟩, fun x hx => ?_⟩
      rw [List.cons_append, List.mem_cons, List.mem_append] at hx
      rcases hx with hx | hx | hx
      · rw [hx]
      · exact g2 x hx
      · exact g1 x hx
    · exact ⟨D1, (cF_miss c).mpr h1, g1⟩
theorem cF_allk {n : Nat} {par : Nat → Int} : ∀ (m : Nat) (e : Int) (k : Nat), ∃ p D, cF n par m e k p D ∧ ∀ x ∈ D, x.2 = true
  | 0, e, k => ⟨0, [], ⟨rfl, rfl⟩, by simp⟩
  | m + 1, e, k => by
    obtain ⟨p1, D1, h1, g1⟩ := cF_allk (n := n) (par := par) m e k
    obtain ⟨p2, D2, h2, g2⟩ := cF_allk (n := n) (par := par) m ((n - (m + 1) : Nat) : Int) 1
    by_cases c : par (n - (m + 1)) = e
    · refine ⟨p1 + (p2 + 1), ((n - (m + 1), true) :: D2) ++ D1, (cF_hit c).mpr ⟨p1, D1, p2 + 1, _, h1, ⟨p2, D2, Or.inl ⟨h2, rfl, rfl⟩⟩, rfl, rfl⟩, fun x hx => ?_⟩
      rw [List.cons_append, List.mem_cons, List.mem_append] at hx
      rcases hx with hx | hx | hx
      · rw [hx]
      · exact g2 x hx
      · exact g1 x hx
    · exact ⟨p1, D1, (cF_miss c).mpr h1, g1⟩
theorem dom_all {n : Nat} {par : Nat → Int} (hp : ∀ i, par i < i) (hp1 : ∀ i, -1 ≤ par i) : ∀ {m : Nat}, m ≤ n → ∀ x, n - m ≤ x → x < n → ∃ e : Int, -1 ≤ e ∧ e < ((n - m : Nat) : Int) ∧ x ∈ dom n par m e
  | 0, _, x, h1, h2 => by omega
  | m + 1, hm, x, h1, h2 => by
    have h3 := hp (n - (m + 1))
    have h4 := hp1 (n - (m + 1))
    by_cases c : x = n - (m + 1)
    · refine ⟨par (n - (m + 1)), h4, h3, ?_⟩
      rw [dom, if_pos rfl, c]
      exact List.mem_cons_self
    · obtain ⟨e, e1, e2, e3⟩ := dom_all hp hp1 (show m ≤ n by omega) x (by omega) h2
      by_cases d : e = ((n - (m + 1) : Nat) : Int)
      · refine ⟨par (n - (m + 1)), h4, h3, ?_⟩
        rw [dom, if_pos rfl, List.mem_cons, List.mem_append]
        rw [d] at e3
        exact Or.inr (Or.inl e3)
      · refine ⟨e, e1, by omega, ?_⟩
        rw [dom]
        split
        · rw [List.mem_cons, List.mem_append]
          exact Or.inr (Or.inr e3)
        · exact e3
/-- the best of a set of choices: most hits, then the greatest bits; -1 and 0 if there is none -/
def bst (ht : Nat → Int) (P : List (Nat × Bool) → Prop) (H B : Int) : Prop := (H = -1 ∧ B = 0 ∧ ∀ D, ¬ P D) ∨ ∃ D, P D ∧ H = hD ht D ∧ B = (bD D : Int) ∧ ∀ D', P D' → hD ht D' < hD ht D ∨ (hD ht D' = hD ht D ∧ bD D' ≤ bD D)
theorem bst_congr {ht : Nat → Int} {P Q : List (Nat × Bool) → Prop} {H B : Int} (h : ∀ D, P D ↔ Q D) (hb : bst ht P H B) : bst ht Q H B := by
  rcases hb with ⟨h1, h2, h3⟩ | ⟨D, h1, h2, h3, h4⟩
  · exact Or.inl ⟨h1, h2, fun D q => h3 D ((h D).mpr q)⟩
  · exact Or.inr ⟨D, (h D).mp h1, h2, h3, fun D' q => h4 D' ((h D').mpr q)⟩
theorem bst_rng {ht : Nat → Int} (hn : ∀ i, 0 ≤ ht i) {P : List (Nat × Bool) → Prop} {H B : Int} (h : bst ht P H B) : -1 ≤ H ∧ 0 ≤ B := by
  rcases h with ⟨h1, h2, -⟩ | ⟨D, -, h2, h3, -⟩
  · omega
  · have := (hD_nn hn D).1
    omega
theorem bst_or {ht : Nat → Int} (hn : ∀ i, 0 ≤ ht i) {P Q : List (Nat × Bool) → Prop} {H B H' B' : Int} (h : bst ht P H B) (h' : bst ht Q H' B') : ((H < H' ∨ H' = H ∧ B < B') → bst ht (fun D => P D ∨ Q D) H' B') ∧ (¬ (H < H' ∨ H' = H ∧ B < B') → bst ht (fun D => P D ∨ Q D) H B) := by
  rcases h with ⟨h1, h2, h3⟩ | ⟨D, h1, h2, h3, h4⟩
  · rcases h' with ⟨g1, g2, g3⟩ | ⟨E, g1, g2, g3, g4⟩
    · exact ⟨fun _ => Or.inl ⟨g1, g2, fun D q => q.elim (h3 D) (g3 D)⟩, fun _ => Or.inl ⟨h1, h2, fun D q => q.elim (h3 D) (g3 D)⟩⟩
    · have := (hD_nn hn E).1
      exact ⟨fun _ => Or.inr ⟨E, Or.inr g1, g2, g3, fun D' q => q.elim (fun q => absurd q (h3 D')) (g4 D')⟩, fun c => by omega⟩
  · rcases h' with ⟨g1, g2, g3⟩ | ⟨E, g1, g2, g3, g4⟩
    · have := (hD_nn hn D).1
      exact ⟨fun c => by omega, fun _ => Or.inr ⟨D, Or.inl h1, h2, h3, fun D' q => q.elim (h4 D') (fun q => absurd q (g3 D'))⟩⟩
    · refine ⟨fun c => Or.inr ⟨E, Or.inr g1, g2, g3, fun D' q => ?_⟩, fun c => Or.inr ⟨D, Or.inl h1, h2, h3, fun D' q => ?_⟩⟩
      · rcases q with q | q
        · have := h4 D' q
          omega
        · exact g4 D' q
      · rcases q with q | q
        · exact h4 D' q
        · have := g4 D' q
          omega
/-- bits of choices over other entries lie apart -/
theorem bD_apart {D E : List (Nat × Bool)} (hx : ∀ x, ¬ (x ∈ D.map (fun x => x.1) ∧ x ∈ E.map (fun x => x.1))) (h1 : ∀ x ∈ D.map (fun x => x.1), x < 60) (h2 : ∀ x ∈ E.map (fun x => x.1), x < 60) : bD D ||| bD E = bD D + bD E := by
  refine or_add _ _ (fun k q => ?_)
  obtain ⟨e, e1, e2⟩ := (bD_bit D k).mp q.1
  obtain ⟨f, f1, f2⟩ := (bD_bit E k).mp q.2
  have a1 : e ∈ D.map (fun x => x.1) := List.mem_map_of_mem e1
  have a2 : f ∈ E.map (fun x => x.1) := List.mem_map_of_mem f1
  have := h1 e a1
  have := h2 f a2
  have : e = f := by omega
  subst this
  exact hx e ⟨a1, a2⟩
theorem bst_pair {ht : Nat → Int} (hn : ∀ i, 0 ≤ ht i) {P Q : List (Nat × Bool) → Prop} {A C : List Nat} (hA : ∀ D, P D → D.map (fun x => x.1) = A) (hC : ∀ D, Q D → D.map (fun x => x.1) = C) (hx : ∀ x, ¬ (x ∈ C ∧ x ∈ A)) (h1 : ∀ x ∈ A, x < 60) (h2 : ∀ x ∈ C, x < 60) {H B H' B' : Int} (h : bst ht P H B) (h' : bst ht Q H' B') : ((H < 0 ∨ H' < 0) → ∀ D, ¬ ∃ D1 D2, P D1 ∧ Q D2 ∧ D = D2 ++ D1) ∧ (0 ≤ H → 0 ≤ H' → bst ht (fun D => ∃ D1 D2, P D1 ∧ Q D2 ∧ D = D2 ++ D1) (H + H') (((B.toNat ||| B'.toNat : Nat) : Nat) : Int)) := by
  rcases h with ⟨a1, a2, a3⟩ | ⟨D, a1, a2, a3, a4⟩
  · refine ⟨fun _ D => ?_, fun q => by omega⟩
    rintro ⟨D1, D2, q1, -⟩
    exact a3 D1 q1
  · have hDn := (hD_nn hn D).1
    rcases h' with ⟨b1, b2, b3⟩ | ⟨E, b1, b2, b3, b4⟩
    · refine ⟨fun _ D => ?_, fun _ q => by omega⟩
      rintro ⟨D1, D2, -, q2, -⟩
      exact b3 D2 q2
    · have hEn := (hD_nn hn E).1
      refine ⟨fun q => by omega, fun _ _ => Or.inr ⟨E ++ D, ⟨D, E, a1, b1, rfl⟩, by rw [hD_app]; omega, ?_, ?_⟩⟩
      · rw [bD_app, a3, b3, Int.toNat_natCast, Int.toNat_natCast, Nat.or_comm]
      · rintro D' ⟨D1, D2, q1, q2, rfl⟩
        have e1 := bD_apart (D := D2) (E := D1) (by rw [hC D2 q2, hA D1 q1]; exact hx) (by rw [hC D2 q2]; exact h2) (by rw [hA D1 q1]; exact h1)
        have e2 := bD_apart (D := E) (E := D) (by rw [hC E b1, hA D a1]; exact hx) (by rw [hC E b1]; exact h2) (by rw [hA D a1]; exact h1)
        rw [hD_app, hD_app, bD_app, bD_app, e1, e2]
        have := a4 D1 q1
        have := b4 D2 q2
        omega
/-- the fewest lost hits of a set of choices -/
def mst (ht : Nat → Int) (P : List (Nat × Bool) → Prop) (v : Int) : Prop := (v = 1000000000 ∧ ∀ D, ¬ P D) ∨ ∃ D, P D ∧ v = lD ht D ∧ ∀ D', P D' → lD ht D ≤ lD ht D'
theorem mst_congr {ht : Nat → Int} {P Q : List (Nat × Bool) → Prop} {v : Int} (h : ∀ D, P D ↔ Q D) (hb : mst ht P v) : mst ht Q v := by
  rcases hb with ⟨h1, h3⟩ | ⟨D, h1, h2, h4⟩
  · exact Or.inl ⟨h1, fun D q => h3 D ((h D).mpr q)⟩
  · exact Or.inr ⟨D, (h D).mp h1, h2, fun D' q => h4 D' ((h D').mpr q)⟩
theorem mst_or {ht : Nat → Int} {P Q : List (Nat × Bool) → Prop} (bP : ∀ D, P D → lD ht D < 1000000000) (bQ : ∀ D, Q D → lD ht D < 1000000000) {v v' : Int} (h : mst ht P v) (h' : mst ht Q v') : mst ht (fun D => P D ∨ Q D) (if v' < v then v' else v) := by
  rcases h with ⟨h1, h3⟩ | ⟨D, h1, h2, h4⟩
  · rcases h' with ⟨g1, g3⟩ | ⟨E, g1, g2, g4⟩
    · rw [if_neg (by omega)]
      exact Or.inl ⟨h1, fun D q => q.elim (h3 D) (g3 D)⟩
    · have := bQ E g1
      rw [if_pos (by omega)]
      exact Or.inr ⟨E, Or.inr g1, g2, fun D' q => q.elim (fun q => absurd q (h3 D')) (g4 D')⟩
  · rcases h' with ⟨g1, g3⟩ | ⟨E, g1, g2, g4⟩
    · have := bP D h1
      rw [if_neg (by omega)]
      exact Or.inr ⟨D, Or.inl h1, h2, fun D' q => q.elim (h4 D') (fun q => absurd q (g3 D'))⟩
    · by_cases c : v' < v
      · rw [if_pos c]
        exact Or.inr ⟨E, Or.inr g1, g2, fun D' q => q.elim (fun q => by have := h4 D' q; omega) (g4 D')⟩
      · rw [if_neg c]
        exact Or.inr ⟨D, Or.inl h1, h2, fun D' q => q.elim (h4 D') (fun q => by have := g4 D' q; omega)⟩
theorem mst_pair {ht : Nat → Int} {P Q : List (Nat × Bool) → Prop} (bP : ∀ D, P D → lD ht D < 1000000000) (bQ : ∀ D, Q D → lD ht D < 1000000000) {v v' : Int} (h : mst ht P v) (h' : mst ht Q v') : (v < 1000000000 ∧ v' < 1000000000 ∧ mst ht (fun D => ∃ D1 D2, P D1 ∧ Q D2 ∧ D = D2 ++ D1) (v + v')) ∨ ((v = 1000000000 ∨ v' = 1000000000) ∧ ∀ D, ¬ ∃ D1 D2, P D1 ∧ Q D2 ∧ D = D2 ++ D1) := by
  rcases h with ⟨h1, h3⟩ | ⟨D, h1, h2, h4⟩
  · exact Or.inr ⟨Or.inl h1, fun D => by rintro ⟨D1, D2, q1, -⟩; exact h3 D1 q1⟩
  · rcases h' with ⟨g1, g3⟩ | ⟨E, g1, g2, g4⟩
    · exact Or.inr ⟨Or.inr g1, fun D => by rintro ⟨D1, D2, -, q2, -⟩; exact g3 D2 q2⟩
    · refine Or.inl ⟨by have := bP D h1; omega, by have := bQ E g1; omega, Or.inr ⟨E ++ D, ⟨D, E, h1, g1, rfl⟩, by rw [lD_app]; omega, ?_⟩⟩
      rintro D' ⟨D1, D2, q1, q2, rfl⟩
      have := h4 D1 q1
      have := g4 D2 q2
      rw [lD_app, lD_app]
      omega
