/-! PURE: the changes that bring a list to another: (rank, key, kind, action) -/
abbrev ftX : Type := Int × Int × Int × Int
def hasK (L : List (Int × Int)) (k : Int) : Bool := L.any (fun q => decide (q.1 = k))
theorem hasK_iff {L : List (Int × Int)} {k : Int} : hasK L k = true ↔ ∃ q ∈ L, q.1 = k := by simp [hasK]
def tgC1 (H : List (Int × Int)) (t : Int × Int) : Option ftX := if hasK H t.1 = true then (if t ∈ H then none else some (32 - t.1 % 64, t.1, 1, t.2)) else some (32 - t.1 % 64, t.1, 0, t.2)
def rmC1 (T : List (Int × Int)) (q : Int × Int) : Option ftX := if hasK T q.1 = true then none else some (33 + q.1 % 64, q.1, 2, q.2)
def tgC (H T : List (Int × Int)) : List ftX := T.filterMap (tgC1 H)
def rmC (H T : List (Int × Int)) : List ftX := H.filterMap (rmC1 T)
def insR (x : ftX) : List ftX → List ftX
  | [] => [x]
  | y :: l => if x.1 < y.1 then x :: y :: l else y :: insR x l
def foR (l C : List ftX) : List ftX := C.foldl (fun l x => insR x l) l
def plL (H T : List (Int × Int)) : List ftX := foR [] (tgC H T ++ rmC H T)
def ltX (a b : ftX) : Prop := a.1 < b.1 ∨ (a.1 = b.1 ∧ a.2.1 < b.2.1)
theorem ltX_ir (a b : ftX) (h1 : ltX a b) (h2 : ltX b a) : False := by unfold ltX at h1 h2; omega
theorem mem_insR {x y : ftX} : ∀ {l : List ftX}, y ∈ insR x l ↔ y = x ∨ y ∈ l
  | [] => by simp [insR]
  | z :: l => by
    rw [insR]
    split
    · rw [List.mem_cons]
    · rw [List.mem_cons, mem_insR (l := l), List.mem_cons]
      constructor
      · rintro (a | a | a)
        · exact Or.inr (Or.inl a)
        · exact Or.inl a
        · exact Or.inr (Or.inr a)
      · rintro (a | a | a)
        · exact Or.inr (Or.inl a)
        · exact Or.inl a
        · exact Or.inr (Or.inr a)
theorem insR_srt {x : ftX} : ∀ {l : List ftX}, l.Pairwise ltX → (∀ y ∈ l, y.1 = x.1 → y.2.1 < x.2.1) → (insR x l).Pairwise ltX
  | [], _, _ => List.pairwise_singleton _ _
  | z :: l, h, hx => by
    have p := List.pairwise_cons.mp h
    rw [insR]
    split
    · next c =>
      refine List.pairwise_cons.mpr ⟨fun y hy => ?_, h⟩
      rcases List.mem_cons.mp hy with e | e
      · rw [e]; exact Or.inl c
      · have := p.1 y e
        unfold ltX at this ⊢
        omega
    · next c =>
      refine List.pairwise_cons.mpr ⟨fun y hy => ?_, insR_srt p.2 (fun y hy => hx y (List.mem_cons_of_mem _ hy))⟩
      rcases mem_insR.mp hy with e | e
      · rw [e]
        have := hx z List.mem_cons_self
        unfold ltX
        omega
      · exact p.1 y e
theorem foR_ok : ∀ {C l : List ftX}, l.Pairwise ltX → (∀ y ∈ l, ∀ x ∈ C, y.1 = x.1 → y.2.1 < x.2.1) → C.Pairwise (fun a b => a.1 = b.1 → a.2.1 < b.2.1) → (foR l C).Pairwise ltX ∧ (∀ y, y ∈ foR l C ↔ y ∈ l ∨ y ∈ C) ∧ (foR l C).length = l.length + C.length
  | [], l, h, _, _ => ⟨h, fun y => by simp [foR], by simp [foR]⟩
  | x :: C, l, h, h1, h2 => by
    have p := List.pairwise_cons.mp h2
    have ih := foR_ok (C := C) (l := insR x l) (insR_srt h (fun y hy => h1 y hy x List.mem_cons_self)) (fun y hy z hz => by
      rcases mem_insR.mp hy with e | e
      · rw [e]; exact p.1 z hz
      · exact h1 y e z (List.mem_cons_of_mem _ hz)) p.2
    have e : foR l (x :: C) = foR (insR x l) C := rfl
    have hl : ∀ l : List ftX, (insR x l).length = l.length + 1 := by
      intro l
      induction l with
      | nil => rfl
      | cons z l ih2 =>
        rw [insR]
        split
        · rfl
        · rw [List.length_cons, ih2, List.length_cons]
    rw [e]
    refine ⟨ih.1, fun y => ?_, by rw [ih.2.2, hl, List.length_cons]; omega⟩
    rw [ih.2.1, mem_insR, List.mem_cons]
    constructor
    · rintro ((a | a) | a)
      · exact Or.inr (Or.inl a)
      · exact Or.inl a
      · exact Or.inr (Or.inr a)
    · rintro (a | a | a)
      · exact Or.inl (Or.inr a)
      · exact Or.inl (Or.inl a)
      · exact Or.inr a
theorem tgC_mem {H T : List (Int × Int)} {x : ftX} : x ∈ tgC H T ↔ ∃ t ∈ T, t ∉ H ∧ x = (32 - t.1 % 64, t.1, (if hasK H t.1 = true then 1 else 0), t.2) := by
  unfold tgC
  rw [List.mem_filterMap]
  constructor
  · rintro ⟨t, h1, h2⟩
    unfold tgC1 at h2
    by_cases c : hasK H t.1 = true
    · rw [if_pos c] at h2
      by_cases d : t ∈ H
      · rw [if_pos d] at h2; cases h2
      · rw [if_neg d] at h2
        exact ⟨t, h1, d, by rw [if_pos c]; exact (Option.some.inj h2).symm⟩
    · rw [if_neg c] at h2
      exact ⟨t, h1, fun d => c (hasK_iff.mpr ⟨t, d, rfl⟩), by rw [if_neg c]; exact (Option.some.inj h2).symm⟩
  · rintro ⟨t, h1, h2, h3⟩
    refine ⟨t, h1, ?_⟩
    unfold tgC1
    by_cases c : hasK H t.1 = true
    · rw [if_pos c] at h3 ⊢
      rw [if_neg h2, h3]
    · rw [if_neg c] at h3 ⊢
      rw [h3]
theorem rmC_mem {H T : List (Int × Int)} {x : ftX} : x ∈ rmC H T ↔ ∃ q ∈ H, ¬ hasK T q.1 = true ∧ x = (33 + q.1 % 64, q.1, 2, q.2) := by
  unfold rmC
  rw [List.mem_filterMap]
  constructor
  · rintro ⟨q, h1, h2⟩
    unfold rmC1 at h2
    by_cases c : hasK T q.1 = true
    · rw [if_pos c] at h2; cases h2
    · rw [if_neg c] at h2
      exact ⟨q, h1, c, (Option.some.inj h2).symm⟩
  · rintro ⟨q, h1, h2, h3⟩
    refine ⟨q, h1, ?_⟩
    unfold rmC1
    rw [if_neg h2, h3]
theorem pw_filterMap {α β : Type} {r : α → α → Prop} {s : β → β → Prop} {f : α → Option β} (hf : ∀ a b x y, r a b → f a = some x → f b = some y → s x y) : ∀ {l : List α}, l.Pairwise r → (l.filterMap f).Pairwise s
  | [], _ => List.Pairwise.nil
  | a :: l, h => by
    have p := List.pairwise_cons.mp h
    have ih := pw_filterMap hf p.2
    cases e : f a with
    | none => rw [List.filterMap_cons_none e]; exact ih
    | some x =>
      rw [List.filterMap_cons_some e, List.pairwise_cons]
      refine ⟨fun y hy => ?_, ih⟩
      obtain ⟨b, b1, b2⟩ := List.mem_filterMap.mp hy
      exact hf a b x y (p.1 b b1) e b2
theorem tgC1_key {H : List (Int × Int)} {t : Int × Int} {x : ftX} (h : tgC1 H t = some x) : x.2.1 = t.1 ∧ x.1 = 32 - t.1 % 64 := by
  unfold tgC1 at h
  split at h
  · split at h
    · cases h
    · rw [← Option.some.inj h]; exact ⟨rfl, rfl⟩
  · rw [← Option.some.inj h]; exact ⟨rfl, rfl⟩
theorem rmC1_key {T : List (Int × Int)} {q : Int × Int} {x : ftX} (h : rmC1 T q = some x) : x.2.1 = q.1 ∧ x.1 = 33 + q.1 % 64 := by
  unfold rmC1 at h
  split at h
  · cases h
  · rw [← Option.some.inj h]; exact ⟨rfl, rfl⟩
theorem C_pw {H T : List (Int × Int)} (hH : lOk H) (hT : lOk T) : (tgC H T ++ rmC H T).Pairwise (fun a b => a.1 = b.1 → a.2.1 < b.2.1) := by
  rw [List.pairwise_append]
  refine ⟨pw_filterMap (r := fun a b : Int × Int => a.1 < b.1) (fun a b x y h h1 h2 _ => ?_) hT.2, pw_filterMap (r := fun a b : Int × Int => a.1 < b.1) (fun a b x y h h1 h2 _ => ?_) hH.2, fun a ha b hb e => ?_⟩
  · rw [(tgC1_key h1).1, (tgC1_key h2).1]; exact h
  · rw [(rmC1_key h1).1, (rmC1_key h2).1]; exact h
  · obtain ⟨t, t1, t2, t3⟩ := tgC_mem.mp ha
    obtain ⟨q, q1, q2, q3⟩ := rmC_mem.mp hb
    have k1 := (hT.1 t t1).1.1
    have k2 := (hH.1 q q1).1.1
    rw [t3, q3] at e
    simp only at e
    omega
theorem plL_ok {H T : List (Int × Int)} (hH : lOk H) (hT : lOk T) : (plL H T).Pairwise ltX ∧ (∀ y, y ∈ plL H T ↔ y ∈ tgC H T ∨ y ∈ rmC H T) ∧ (plL H T).length = (tgC H T).length + (rmC H T).length := by
  have := foR_ok (C := tgC H T ++ rmC H T) (l := []) List.Pairwise.nil (fun y hy => absurd hy (by simp)) (C_pw hH hT)
  refine ⟨this.1, fun y => ?_, ?_⟩
  · have h := this.2.1 y
    unfold plL
    rw [h, List.mem_append]
    simp
  · have h := this.2.2
    unfold plL
    rw [h, List.length_append]
    simp
def apC (H : List (Int × Int)) (x : ftX) : List (Int × Int) := if x.2.2.1 = 2 then H.filter (fun q => q.1 != x.2.1) else insK x.2.1 x.2.2.2 H
theorem insK_mem2 {k v : Int} {q : Int × Int} : ∀ {l : List (Int × Int)}, l.Pairwise (fun a b => a.1 < b.1) → (q ∈ insK k v l ↔ q = (k, v) ∨ (q ∈ l ∧ q.1 ≠ k))
  | [], _ => by simp [insK]
  | x :: l, h => by
    have p := List.pairwise_cons.mp h
    have ih := insK_mem2 (k := k) (v := v) (q := q) p.2
    rw [insK]
    by_cases c : x.1 < k
    · rw [if_pos c, List.mem_cons, ih, List.mem_cons]
      constructor
      · rintro (a | a | a)
        · rw [a]; exact Or.inr ⟨Or.inl rfl, by omega⟩
        · exact Or.inl a
        · exact Or.inr ⟨Or.inr a.1, a.2⟩
      · rintro (a | ⟨a | a, b⟩)
        · exact Or.inr (Or.inl a)
        · exact Or.inl a
        · exact Or.inr (Or.inr ⟨a, b⟩)
    · rw [if_neg c]
      by_cases d : x.1 = k
      · rw [if_pos d, List.mem_cons, List.mem_cons]
        constructor
        · rintro (a | a)
          · exact Or.inl a
          · have := p.1 q a; exact Or.inr ⟨Or.inr a, by omega⟩
        · rintro (a | ⟨a | a, b⟩)
          · exact Or.inl a
          · rw [a] at b; exact absurd d b
          · exact Or.inr a
      · rw [if_neg d, List.mem_cons, List.mem_cons]
        constructor
        · rintro (a | a | a)
          · exact Or.inl a
          · rw [a]; exact Or.inr ⟨Or.inl rfl, d⟩
          · have := p.1 q a; exact Or.inr ⟨Or.inr a, by omega⟩
        · rintro (a | ⟨a | a, -⟩)
          · exact Or.inl a
          · exact Or.inr (Or.inl a)
          · exact Or.inr (Or.inr a)
theorem key_eq {L : List (Int × Int)} (hL : lOk L) {a b : Int × Int} (ha : a ∈ L) (hb : b ∈ L) (h : a.1 = b.1) : a = b := by
  obtain ⟨i, hi⟩ := List.getElem?_of_mem ha
  obtain ⟨j, hj⟩ := List.getElem?_of_mem hb
  exact lOk_uniq hL hi hj h
/-- one change made: the others are left -/
theorem C_step {H T : List (Int × Int)} (hH : lOk H) (hT : lOk T) {x : ftX} (hx : x ∈ tgC H T ∨ x ∈ rmC H T) : lOk (apC H x) ∧ ∀ y, (y ∈ tgC (apC H x) T ∨ y ∈ rmC (apC H x) T) ↔ ((y ∈ tgC H T ∨ y ∈ rmC H T) ∧ y ≠ x) := by
  rcases hx with hx | hx
  · obtain ⟨t, t1, t2, t3⟩ := tgC_mem.mp hx
    have hkind : ¬ x.2.2.1 = 2 := by rw [t3]; simp only; split <;> omega
    have e : apC H x = insK t.1 t.2 H := by unfold apC; rw [if_neg hkind, t3]
    have hok : lOk (insK t.1 t.2 H) := insK_ok (hT.1 t t1).1 (hT.1 t t1).2 H hH
    rw [e]
    have hm : ∀ q : Int × Int, q ∈ insK t.1 t.2 H ↔ q = t ∨ (q ∈ H ∧ q.1 ≠ t.1) := fun q => insK_mem2 hH.2
    have hk : ∀ k, k ≠ t.1 → (hasK (insK t.1 t.2 H) k = true ↔ hasK H k = true) := fun k hne => by
      rw [hasK_iff, hasK_iff]
      constructor
      · rintro ⟨q, q1, q2⟩
        rcases (hm q).mp q1 with a | a
        · rw [a] at q2; exact absurd q2.symm hne
        · exact ⟨q, a.1, q2⟩
      · rintro ⟨q, q1, q2⟩
        exact ⟨q, (hm q).mpr (Or.inr ⟨q1, by omega⟩), q2⟩
    refine ⟨hok, fun y => ?_⟩
    constructor
    · rintro (a | a)
      · obtain ⟨s, s1, s2, s3⟩ := tgC_mem.mp a
        have hne : s.1 ≠ t.1 := fun q => s2 ((hm s).mpr (Or.inl (key_eq hT s1 t1 q)))
        have hs : s ∉ H := fun q => s2 ((hm s).mpr (Or.inr ⟨q, hne⟩))
        refine ⟨Or.inl (tgC_mem.mpr ⟨s, s1, hs, ?_⟩), fun q => ?_⟩
        · rw [s3]
          by_cases c : hasK H s.1 = true
          · rw [if_pos c, if_pos ((hk _ hne).mpr c)]
          · rw [if_neg c, if_neg (fun q => c ((hk _ hne).mp q))]
        · rw [q, t3] at s3
          have := congrArg (fun z : ftX => z.2.1) s3
          simp only at this
          exact hne this.symm
      · obtain ⟨q, q1, q2, q3⟩ := rmC_mem.mp a
        rcases (hm q).mp q1 with b | b
        · rw [b] at q2
          exact absurd (hasK_iff.mpr ⟨t, t1, rfl⟩) q2
        · refine ⟨Or.inr (rmC_mem.mpr ⟨q, b.1, q2, q3⟩), fun c => ?_⟩
          rw [c, t3] at q3
          have := congrArg (fun z : ftX => z.2.1) q3
          simp only at this
          exact b.2 this.symm
    · rintro ⟨a | a, hne⟩
      · obtain ⟨s, s1, s2, s3⟩ := tgC_mem.mp a
        have hne2 : s.1 ≠ t.1 := fun q => hne (by
          have := key_eq hT s1 t1 q
          rw [s3, t3, this])
        refine Or.inl (tgC_mem.mpr ⟨s, s1, fun q => ?_, ?_⟩)
        · rcases (hm s).mp q with b | b
          · rw [b] at hne2; exact hne2 rfl
          · exact s2 b.1
        · rw [s3]
          by_cases c : hasK H s.1 = true
          · rw [if_pos c, if_pos ((hk _ hne2).mpr c)]
          · rw [if_neg c, if_neg (fun q => c ((hk _ hne2).mp q))]
      · obtain ⟨q, q1, q2, q3⟩ := rmC_mem.mp a
        refine Or.inr (rmC_mem.mpr ⟨q, (hm q).mpr (Or.inr ⟨q1, fun c => q2 (hasK_iff.mpr ⟨t, t1, c.symm⟩)⟩), q2, q3⟩)
  · obtain ⟨t, t1, t2, t3⟩ := rmC_mem.mp hx
    have e : apC H x = H.filter (fun q => q.1 != t.1) := by unfold apC; rw [if_pos (by rw [t3]), t3]
    rw [e]
    have hm : ∀ q : Int × Int, q ∈ H.filter (fun q => q.1 != t.1) ↔ q ∈ H ∧ q.1 ≠ t.1 := fun q => by rw [List.mem_filter]; simp
    refine ⟨lOk_filter hH, fun y => ?_⟩
    have hk : ∀ s ∈ T, (hasK (H.filter (fun q => q.1 != t.1)) s.1 = true ↔ hasK H s.1 = true) := fun s hs => by
      rw [hasK_iff, hasK_iff]
      constructor
      · rintro ⟨q, q1, q2⟩; exact ⟨q, ((hm q).mp q1).1, q2⟩
      · rintro ⟨q, q1, q2⟩
        exact ⟨q, (hm q).mpr ⟨q1, fun c => t2 (hasK_iff.mpr ⟨s, hs, by omega⟩)⟩, q2⟩
    constructor
    · rintro (a | a)
      · obtain ⟨s, s1, s2, s3⟩ := tgC_mem.mp a
        have hne : s.1 ≠ t.1 := fun c => t2 (hasK_iff.mpr ⟨s, s1, c⟩)
        refine ⟨Or.inl (tgC_mem.mpr ⟨s, s1, fun q => s2 ((hm s).mpr ⟨q, hne⟩), ?_⟩), fun q => ?_⟩
        · rw [s3]
          by_cases c : hasK H s.1 = true
          · rw [if_pos c, if_pos ((hk s s1).mpr c)]
          · rw [if_neg c, if_neg (fun q => c ((hk s s1).mp q))]
        · rw [q, t3] at s3
          have := congrArg (fun z : ftX => z.2.1) s3
          simp only at this
          exact hne this.symm
      · obtain ⟨q, q1, q2, q3⟩ := rmC_mem.mp a
        have := (hm q).mp q1
        refine ⟨Or.inr (rmC_mem.mpr ⟨q, this.1, q2, q3⟩), fun c => ?_⟩
        rw [c, t3] at q3
        have h2 := congrArg (fun z : ftX => z.2.1) q3
        simp only at h2
        exact this.2 h2.symm
    · rintro ⟨a | a, hne⟩
      · obtain ⟨s, s1, s2, s3⟩ := tgC_mem.mp a
        refine Or.inl (tgC_mem.mpr ⟨s, s1, fun q => s2 ((hm s).mp q).1, ?_⟩)
        rw [s3]
        by_cases c : hasK H s.1 = true
        · rw [if_pos c, if_pos ((hk s s1).mpr c)]
        · rw [if_neg c, if_neg (fun q => c ((hk s s1).mp q))]
      · obtain ⟨q, q1, q2, q3⟩ := rmC_mem.mp a
        refine Or.inr (rmC_mem.mpr ⟨q, (hm q).mpr ⟨q1, fun c => hne ?_⟩, q2, q3⟩)
        rw [q3, t3, key_eq hH q1 t1 c]
theorem plL_step {H T : List (Int × Int)} (hH : lOk H) (hT : lOk T) {x : ftX} {l : List ftX} (h : plL H T = x :: l) : lOk (apC H x) ∧ plL (apC H x) T = l := by
  have h1 := plL_ok hH hT
  have hx : x ∈ tgC H T ∨ x ∈ rmC H T := (h1.2.1 x).mp (by rw [h]; exact List.mem_cons_self)
  have h2 := C_step hH hT hx
  have h3 := plL_ok h2.1 hT
  refine ⟨h2.1, sorted_ext (r := ltX) ltX_ir h3.1 ?_ (fun y => ?_)⟩
  · have := h1.1
    rw [h] at this
    exact (List.pairwise_cons.mp this).2
  · rw [h3.2.1, h2.2, ← h1.2.1, h, List.mem_cons]
    constructor
    · rintro ⟨a | a, b⟩
      · exact absurd a b
      · exact a
    · intro a
      refine ⟨Or.inr a, fun e => ?_⟩
      have := h1.1
      rw [h] at this
      have := (List.pairwise_cons.mp this).1 y a
      rw [e] at this
      exact ltX_ir _ _ this this
theorem head_min {l : List ftX} (hl : l.Pairwise ltX) {x : ftX} (hx : x ∈ l) (hm : ∀ y ∈ l, y = x ∨ ltX x y) : ∃ l', l = x :: l' := by
  cases l with
  | nil => cases hx
  | cons z l =>
    have p := List.pairwise_cons.mp hl
    rcases List.mem_cons.mp hx with e | e
    · exact ⟨l, by rw [e]⟩
    · have h1 := p.1 x e
      rcases hm z List.mem_cons_self with q | q
      · exact ⟨l, by rw [q]⟩
      · exact (ltX_ir _ _ h1 q).elim
/-- the number of those in one of both lists -/
def togC (H T : List (Int × Int)) : Nat := H.length + T.countP (fun t => !hasK H t.1)
