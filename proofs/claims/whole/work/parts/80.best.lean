/-! PURE: the best choice -/
def bestC (E : List (Int × Int)) (ht : Nat → Int) (cap bp : Nat) (D : List (Nat × Bool)) : Prop := bp ≤ cap ∧ cF E.length (parI E) E.length (-1) 0 bp D ∧ (∀ p' D', cF E.length (parI E) E.length (-1) 0 p' D' → p' ≤ cap → hD ht D' ≤ hD ht D) ∧ (∀ p' D', cF E.length (parI E) E.length (-1) 0 p' D' → p' ≤ cap → hD ht D' = hD ht D → bp ≤ p') ∧ ∀ D', cF E.length (parI E) E.length (-1) 0 bp D' → hD ht D' = hD ht D → bD D' ≤ bD D
theorem bestC_uniq {E : List (Int × Int)} {ht : Nat → Int} {cap bp bp' : Nat} {D D' : List (Nat × Bool)} (h : bestC E ht cap bp D) (h' : bestC E ht cap bp' D') : bp = bp' ∧ hD ht D = hD ht D' ∧ bD D = bD D' := by
  obtain ⟨a1, a2, a3, a4, a5⟩ := h
  obtain ⟨b1, b2, b3, b4, b5⟩ := h'
  have e1 : hD ht D = hD ht D' := by
    have := a3 _ _ b2 b1
    have := b3 _ _ a2 a1
    omega
  have e2 : bp = bp' := by
    have := a4 _ _ b2 b1 e1.symm
    have := b4 _ _ a2 a1 e1
    omega
  subst e2
  refine ⟨rfl, e1, ?_⟩
  have := a5 _ b2 e1.symm
  have := b5 _ a2 e1
  omega
theorem dom_top {E : List (Int × Int)} : (dom E.length (parI E) E.length (-1)).Perm (List.range E.length) := by
  have hp : ∀ i, parI E i < i := fun i => (parI_rng E i).2
  have hp1 : ∀ i, -1 ≤ parI E i := fun i => (parI_rng E i).1
  refine (List.perm_ext_iff_of_nodup (dom_nodup hp (Nat.le_refl _) (by omega)) List.nodup_range).mpr (fun x => ?_)
  rw [List.mem_range]
  constructor
  · intro h; exact (dom_ge (Nat.le_refl _) h).2
  · intro h
    obtain ⟨e, e1, e2, e3⟩ := dom_all hp hp1 (Nat.le_refl E.length) x (by omega) h
    have : e = -1 := by omega
    rw [this] at e3
    exact e3
theorem sum_range (g : Nat → Int) : ∀ n, ((List.range n).map g).sum = sm g n
  | 0 => rfl
  | n + 1 => by
    rw [List.range_succ, List.map_append, List.sum_append, sum_range g n, sm]
    simp
/-- kept and lost hits together are all hits -/
theorem top_sum {E : List (Int × Int)} {ht : Nat → Int} {k p : Nat} {D : List (Nat × Bool)} (h : cF E.length (parI E) E.length (-1) k p D) : hD ht D + lD ht D = sm ht E.length := by
  rw [hl_sum, cF_dom h, sum_perm (dom_top.map ht), sum_range]
theorem dom_par {n : Nat} {par : Nat → Int} : ∀ {m : Nat} {e : Int} {x : Nat}, m ≤ n → x ∈ dom n par m e → par x = e ∨ ((n - m : Nat) : Int) ≤ par x
  | 0, e, x, _, h => by simp [dom] at h
  | m + 1, e, x, hm, h => by
    rw [dom] at h
    split at h
    · next c =>
      rw [List.mem_cons, List.mem_append] at h
      rcases h with h | h | h
      · rw [h]; exact Or.inl c
      · rcases dom_par (show m ≤ n by omega) h with q | q
        · exact Or.inr (by omega)
        · exact Or.inr (by omega)
      · rcases dom_par (show m ≤ n by omega) h with q | q
        · exact Or.inl q
        · exact Or.inr (by omega)
    · rcases dom_par (show m ≤ n by omega) h with q | q
      · exact Or.inl q
      · exact Or.inr (by omega)
/-- the place that an entry takes -/
def plW (par : Nat → Int) (b : Nat) (e : Int) (k : Nat) (x : Nat × Bool) : Int := if x.2 = true then 1 else if par x.1 = e then (k : Int) else if b.testBit (59 - (par x.1).toNat) = true then 1 else 0
theorem cF_pl {n : Nat} {par : Nat → Int} {b : Nat} : ∀ {m : Nat} {e : Int} {k p : Nat} {D : List (Nat × Bool)}, m ≤ n → e < ((n - m : Nat) : Int) → (∀ x ∈ D, b.testBit (59 - x.1) = x.2) → cF n par m e k p D → (p : Int) = (D.map (plW par b e k)).sum
  | 0, e, k, p, D, _, _, _, h => by rw [h.1, h.2]; rfl
  | m + 1, e, k, p, D, hm, he, hb, h => by
    by_cases c : par (n - (m + 1)) = e
    · obtain ⟨p1, D1, p2, D2, h1, ⟨q, D3, hq⟩, h5, h6⟩ := (cF_hit c).mp h
      have go : ∀ (bi : Bool) (k' : Nat), cF n par m ((n - (m + 1) : Nat) : Int) k' q D3 → (bi = true → k' = 1) → (bi = false → k' = 0) → D2 = (n - (m + 1), bi) :: D3 → (p2 : Int) = q + (if bi = true then 1 else (k : Int)) → (p : Int) = (D.map (plW par b e k)).sum := by
        intro bi k' g1 g2 g3 g4 g5
        have hb2 : ∀ x ∈ D3, b.testBit (59 - x.1) = x.2 := fun x hx => hb x (by rw [h6, g4]; simp [hx])
        have hb1 : ∀ x ∈ D1, b.testBit (59 - x.1) = x.2 := fun x hx => hb x (by rw [h6]; exact List.mem_append_right _ hx)
        have hbi : b.testBit (59 - (n - (m + 1))) = bi := hb (n - (m + 1), bi) (by rw [h6, g4]; simp)
        have i1 := cF_pl (show m ≤ n by omega) (by omega) hb1 h1
        have i2 := cF_pl (show m ≤ n by omega) (by omega) hb2 g1
        have e2 : D3.map (plW par b e k) = D3.map (plW par b ((n - (m + 1) : Nat) : Int) k') := by
          apply List.map_congr_left
          intro x hx
          unfold plW
          by_cases q1 : x.2 = true
          · rw [if_pos q1, if_pos q1]
          · rw [if_neg q1, if_neg q1]
            have hxd : x.1 ∈ dom n par m ((n - (m + 1) : Nat) : Int) := by rw [← cF_dom g1]; exact List.mem_map_of_mem hx
            have hpx : ((n - (m + 1) : Nat) : Int) ≤ par x.1 := by
              rcases dom_par (show m ≤ n by omega) hxd with t | t
              · omega
              · omega
            rw [if_neg (by omega)]
            by_cases q2 : par x.1 = ((n - (m + 1) : Nat) : Int)
            · rw [if_pos q2, q2, Int.toNat_natCast, hbi]
              cases bi
              · rw [g3 rfl]; rfl
              · rw [g2 rfl]; rfl
            · rw [if_neg q2]
        have e3 : plW par b e k (n - (m + 1), bi) = if bi = true then 1 else (k : Int) := by
          unfold plW
          simp only
          rw [if_pos c]
        rw [h6, g4, List.map_append, List.sum_append, List.map_cons, List.sum_cons, e2, e3, ← i1, ← i2]
        omega
      rcases hq with ⟨q1, q2, q3⟩ | ⟨q1, q2, q3⟩
      · exact go true 1 q1 (fun _ => rfl) (fun t => by cases t) q3 (by rw [if_pos rfl]; omega)
      · exact go false 0 q1 (fun t => by cases t) (fun _ => rfl) q3 (by rw [if_neg (by decide)]; omega)
    · exact cF_pl (show m ≤ n by omega) (by omega) hb ((cF_miss c).mp h)
/-- the target that bits of kept entries give -/
def tgO (E : List (Int × Int)) (b i : Nat) : List (Int × Int) := if b.testBit (59 - i) = true then [(kAt E i, vAt E i)] else if 0 ≤ parI E i ∧ b.testBit (59 - (parI E i).toNat) = true then [(kAt E i, 16)] else []
def tgL (E : List (Int × Int)) (b n : Nat) : List (Int × Int) := (List.range n).flatMap (tgO E b)
theorem tgL_succ {E : List (Int × Int)} {b n : Nat} : tgL E b (n + 1) = tgL E b n ++ tgO E b n := by
  unfold tgL
  rw [List.range_succ, List.flatMap_append, List.flatMap_cons, List.flatMap_nil, List.append_nil]
theorem bD_kept {D : List (Nat × Bool)} (hd : (D.map (fun x => x.1)).Nodup) (h60 : ∀ x ∈ D.map (fun x => x.1), x < 60) : ∀ x ∈ D, (bD D).testBit (59 - x.1) = x.2 := by
  intro x hx
  have hx60 := h60 x.1 (List.mem_map_of_mem hx)
  cases c : x.2 with
  | true => exact (bD_bit D _).mpr ⟨x.1, by rw [← c]; exact hx, rfl⟩
  | false =>
    cases d : (bD D).testBit (59 - x.1) with
    | false => rfl
    | true =>
      obtain ⟨e, e1, e2⟩ := (bD_bit D _).mp d
      have he60 := h60 e (List.mem_map_of_mem (f := fun x => x.1) e1)
      have hee : e = x.1 := by omega
      subst hee
      exfalso
      obtain ⟨i, hi⟩ := List.getElem?_of_mem hx
      obtain ⟨j, hj⟩ := List.getElem?_of_mem e1
      have h1 : (D.map (fun x => x.1))[i]? = some x.1 := by rw [List.getElem?_map, hi]; rfl
      have h2 : (D.map (fun x => x.1))[j]? = some x.1 := by rw [List.getElem?_map, hj]; rfl
      have hij : i = j := by
        obtain ⟨l1, q1⟩ := List.getElem?_eq_some_iff.mp h1
        obtain ⟨l2, q2⟩ := List.getElem?_eq_some_iff.mp h2
        rcases Nat.lt_trichotomy i j with t | t | t
        · exact absurd (q1.trans q2.symm) (List.pairwise_iff_getElem.mp hd i j l1 l2 t)
        · exact t
        · exact absurd (q2.trans q1.symm) (List.pairwise_iff_getElem.mp hd j i l2 l1 t)
      rw [hij, hj] at hi
      have := Option.some.inj hi
      rw [← this] at c
      cases c
theorem tgL_len {E : List (Int × Int)} (h60 : E.length ≤ 60) {p : Nat} {D : List (Nat × Bool)} (h : cF E.length (parI E) E.length (-1) 0 p D) : (tgL E (bD D) E.length).length = p := by
  have hp : ∀ i, parI E i < i := fun i => (parI_rng E i).2
  have hnd : (D.map (fun x => x.1)).Nodup := by rw [cF_dom h]; exact dom_nodup hp (Nat.le_refl _) (by omega)
  have hlt : ∀ x ∈ D.map (fun x => x.1), x < 60 := fun x hx => by rw [cF_dom h] at hx; have := (dom_ge (Nat.le_refl _) hx).2; omega
  have hk := bD_kept hnd hlt
  have h1 := cF_pl (b := bD D) (Nat.le_refl E.length) (by omega) hk h
  have h2 : D.map (plW (parI E) (bD D) (-1) 0) = (D.map (fun x => x.1)).map (fun i => ((tgO E (bD D) i).length : Int)) := by
    rw [List.map_map]
    apply List.map_congr_left
    intro x hx
    have hkx := hk x hx
    have hr := parI_rng E x.1
    unfold plW tgO
    simp only [Function.comp_apply]
    rw [hkx]
    by_cases q1 : x.2 = true
    · rw [if_pos q1, if_pos q1]; rfl
    · rw [if_neg q1, if_neg q1]
      by_cases q2 : parI E x.1 = -1
      · rw [if_pos q2, if_neg (by omega)]; rfl
      · rw [if_neg q2]
        by_cases q3 : (bD D).testBit (59 - (parI E x.1).toNat) = true
        · rw [if_pos q3, if_pos ⟨by omega, q3⟩]; rfl
        · rw [if_neg q3, if_neg (fun t => q3 t.2)]; rfl
  rw [h2, cF_dom h, sum_perm (dom_top.map _), sum_range] at h1
  have h3 : ∀ n, ((tgL E (bD D) n).length : Int) = sm (fun i => ((tgO E (bD D) i).length : Int)) n := by
    intro n
    induction n with
    | zero => rfl
    | succ n ih => rw [tgL_succ, List.length_append, sm, ← ih]; push_cast; rfl
  have := h3 E.length
  omega
theorem tgO_mem {E : List (Int × Int)} {b i : Nat} {q : Int × Int} (h : q ∈ tgO E b i) : q.1 = kAt E i ∧ (q.2 = vAt E i ∨ q.2 = 16) := by
  unfold tgO at h
  split at h
  · rw [List.mem_singleton] at h; subst h; exact ⟨rfl, Or.inl rfl⟩
  · split at h
    · rw [List.mem_singleton] at h; subst h; exact ⟨rfl, Or.inr rfl⟩
    · cases h
theorem tgL_mem {E : List (Int × Int)} {b n : Nat} {q : Int × Int} (h : q ∈ tgL E b n) : ∃ i, i < n ∧ q ∈ tgO E b i := by
  unfold tgL at h
  rw [List.mem_flatMap] at h
  obtain ⟨i, h1, h2⟩ := h
  exact ⟨i, List.mem_range.mp h1, h2⟩
theorem tgL_ok {E : List (Int × Int)} (hE : lOk E) (b : Nat) : ∀ n, n ≤ E.length → lOk (tgL E b n)
  | 0, _ => ⟨by simp [tgL], List.Pairwise.nil⟩
  | n + 1, hn => by
    have ih := tgL_ok hE b n (by omega)
    rw [tgL_succ]
    refine ⟨fun q hq => ?_, ?_⟩
    · rcases List.mem_append.mp hq with c | c
      · exact ih.1 q c
      · have h1 := tgO_mem c
        have h2 := hE.1 _ (at_mem (show n < E.length by omega))
        rw [h1.1]
        refine ⟨h2.1, ?_⟩
        rcases h1.2 with t | t
        · rw [t]; exact h2.2
        · omega
    · rw [List.pairwise_append]
      refine ⟨ih.2, ?_, fun a ha c hc => ?_⟩
      · unfold tgO
        split
        · exact List.pairwise_singleton _ _
        · split
          · exact List.pairwise_singleton _ _
          · exact List.Pairwise.nil
      · obtain ⟨i, i1, i2⟩ := tgL_mem ha
        rw [(tgO_mem i2).1, (tgO_mem hc).1]
        exact kAt_lt hE i1 (by omega)
/-! the class's best choice -/
theorem v_Ch_places {M : Nat} (hM : M ≤ 60) {h : ftH} {R : Option ftV → ftH → Prop} (hk : ∀ b : Nat, b ≤ M → (∀ q, q ≤ M → h 149 q ≤ h 149 b) → (∀ q, q < b → h 149 q < h 149 b) → R (some (.inl (b : Int))) h) :
    ∀ m p b : Nat, p + m = M + 1 → b < p → (∀ q, q < p → h 149 q ≤ h 149 b) → (∀ q, q < b → h 149 q < h 149 b) → ft_V k_Ch_placesWith 16 [some (.inr (.inr 143)), none, some (.inl (b : Int)), some (.inl (M : Int)), some (.inl (p : Int))] [] h R := by
  have ll : ft_ln 149 = 61 := (ln_rows 0 (by omega)).1
  intro m
  induction m with
  | zero =>
    intro p b hm hb h1 h2
    exact b_Ch_placesWith_16 ⟨fun _ => hk b (by omega) (fun q hq => h1 q (by omega)) h2, fun c => absurd (by omega) c⟩
  | succ m ih =>
    intro p b hm hb h1 h2
    refine b_Ch_placesWith_16 ⟨fun c => absurd c (by omega), fun _ => ?_⟩
    rw [show (149 + (0 : Int).toNat) = 149 from rfl, Int.toNat_natCast, Int.toNat_natCast, inc1 (by omega)]
    refine ⟨⟨by omega, by omega⟩, ⟨by omega, by omega⟩, ⟨by omega, by omega⟩, ⟨by omega, by omega⟩, fun c => ih (p + 1) b (by omega) (by omega) (fun q hq => ?_) h2, fun c => ih (p + 1) p (by omega) (by omega) (fun q hq => ?_) (fun q hq => ?_)⟩
    · by_cases e : q = p
      · rw [e]; exact c
      · exact h1 q (by omega)
    · by_cases e : q = p
      · rw [e]; exact Int.le_refl _
      · have := h1 q (by omega); omega
    · have := h1 q hq; omega
theorem c_Ch_places {E : List (Int × Int)} (h60 : E.length ≤ 60) {ht : Nat → Int} (hn : ∀ i, 0 ≤ ht i) {h : ftH} (hR : Rw h E ht E.length (-1) 0) {cap : Nat} : ft_C k_Ch_placesWith [.inr (.inr 143), .inl (cap : Int)] h (fun r h' => h' = h ∧ ∃ b D, r = some (.inl ((b : Nat) : Int)) ∧ b ≤ 60 ∧ bestC E ht cap b D ∧ h 149 b = hD ht D ∧ h 218 b = (bD D : Int)) := by
  have hp : ∀ i, parI E i < i := fun i => (parI_rng E i).2
  have hlen := dom_len hp (Nat.le_refl E.length) (e := -1) (by omega)
  refine ft_enter (n := 3) rfl (Nat.le_of_ble_eq_true rfl) rfl (b_Ch_placesWith_0 (fun n1 e1 => ?_))
  rw [hR.1] at e1
  obtain ⟨L1, hL1⟩ : ∃ L1, L1 = (dom E.length (parI E) E.length (-1)).length := ⟨_, rfl⟩
  rw [← hL1] at e1 hlen
  rw [e1, show min (cap : Int) (L1 : Int) = ((min cap L1 : Nat) : Int) by omega]
  refine v_Ch_places (M := min cap L1) (by omega) (fun b b1 b2 b3 => ?_) (min cap L1) 1 0 (by omega) (by omega) (fun q hq => by rw [show q = 0 by omega]; exact Int.le_refl _) (fun q hq => absurd hq (Nat.not_lt_zero q))
  have row : ∀ p, p ≤ L1 → bst ht (cF E.length (parI E) E.length (-1) 0 p) (h 149 p) (h 218 p) := fun p hp' => hR.2 0 (by omega) p (by omega)
  obtain ⟨D0, d1, d2⟩ := cF_none (n := E.length) (par := parI E) E.length (-1)
  have h0 : 0 ≤ h 149 0 := by
    rcases row 0 (by omega) with ⟨-, -, q⟩ | ⟨D, -, q, -⟩
    · exact absurd d1 (q D0)
    · rw [q]; exact (hD_nn hn D).1
  have hb := b2 0 (by omega)
  rcases row b (by omega) with ⟨q, -, -⟩ | ⟨D, q1, q2, q3, q4⟩
  · omega
  · refine ⟨rfl, b, D, rfl, by omega, ⟨by omega, q1, fun p' D' t1 t2 => ?_, fun p' D' t1 t2 t3 => ?_, fun D' t1 t2 => ?_⟩, q2, q3⟩
    · have hpl := cF_le (by omega) t1
      have := b2 p' (by omega)
      rcases row p' (by omega) with ⟨-, -, s⟩ | ⟨D2, s1, s2, s3, s4⟩
      · exact absurd t1 (s D')
      · have := s4 D' t1
        omega
    · have hpl := cF_le (by omega) t1
      rcases row p' (by omega) with ⟨-, -, s⟩ | ⟨D2, s1, s2, s3, s4⟩
      · exact absurd t1 (s D')
      · have := s4 D' t1
        by_cases c : b ≤ p'
        · exact c
        · have := b3 p' (by omega)
          omega
    · have := q4 D' t1
      omega
theorem c_Ch_lost {E : List (Int × Int)} (h60 : E.length ≤ 60) {ht : Nat → Int} (hn : ∀ i, 0 ≤ ht i) (hU : sm ht E.length ≤ 40000000) {h : ftH} (hR : Rw h E ht E.length (-1) 0) (h2 : h 143 2 = sm ht E.length) {cap : Nat} : ft_C k_Ch_lostWith [.inr (.inr 143), .inl (cap : Int)] h (fun r h' => h' = h ∧ ∃ b D, r = some (.inl (lD ht D)) ∧ bestC E ht cap b D) := by
  have ll : ft_ln 149 = 61 := (ln_rows 0 (by omega)).1
  refine ft_enter (n := 0) rfl (Nat.le_of_ble_eq_true rfl) rfl (b_Ch_lostWith_0 ⟨⟨by omega, by omega⟩, _, c_Ch_places h60 hn hR (cap := cap), fun z4 h1 _ hw => ?_⟩)
  obtain ⟨rfl, b, D, hz, b60, hb, q1, q2⟩ := hw
  have hz := injI hz
  subst hz
  rw [show (149 + (0 : Int).toNat) = 149 from rfl, Int.toNat_natCast, h2, q1]
  have hs := top_sum (ht := ht) hb.2.1
  have hnn := hD_nn hn D
  rw [ft_sub_eq ⟨by omega, by omega⟩]
  exact ⟨⟨by omega, by omega⟩, rfl, b, D, by rw [show sm ht E.length - hD ht D = lD ht D by omega], hb⟩
