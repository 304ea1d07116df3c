/-! THE START: classes, array classes, texts, statics, out of the Statement's words -/
theorem ck_all : ∀ (k : Nat) (q : vw_C), ft_cls[k]? = some q → (∀ w ∈ u_ws q.1 q.2.1 q.2.2, ft_g w) ∧ ft_g (.instantiable q.1 q.2.2)
  | 0, q, h => by cases h; exact ⟨ck_0.2.1, in_0⟩
  | 1, q, h => by cases h; exact ⟨ck_1.2.1, in_1⟩
  | 2, q, h => by cases h; exact ⟨ck_2.2.1, in_2⟩
  | 3, q, h => by cases h; exact ⟨ck_3.2.1, in_3⟩
  | 4, q, h => by cases h; exact ⟨ck_4.2.1, in_4⟩
  | 5, q, h => by cases h; exact ⟨ck_5.2.1, in_5⟩
  | 6, q, h => by cases h; exact ⟨ck_6.2.1, in_6⟩
  | 7, q, h => by cases h; exact ⟨ck_7.2.1, in_7⟩
  | 8, q, h => by cases h; exact ⟨ck_8.2.1, in_8⟩
  | 9, q, h => by cases h; exact ⟨ck_9.2.1, in_9⟩
  | 10, q, h => by cases h; exact ⟨ck_10.2.1, in_10⟩
  | 11, q, h => by cases h; exact ⟨ck_11.2.1, in_11⟩
  | k + 12, q, h => by
    have := (List.getElem?_eq_some_iff.mp h).1
    have e : ft_cls.length = 12 := rfl
    omega
theorem s_D {s : State} {args : Array Value} (hts : ∀ w ∈ lw_tbl, w.before args s = true) : ∃ D : va_G, ∀ (k : Nat) (q : vw_C), ft_cls[k]? = some q → u_Kn s q.1 q.2.1 q.2.2 (D.1 k) (D.2 k) := by
  have h0 : ∀ k : Nat, ∃ x : ClassId × (Nat → Nat), ∀ q : vw_C, ft_cls[k]? = some q → u_Kn s q.1 q.2.1 q.2.2 x.1 x.2 := by
    intro k
    cases hk : ft_cls[k]? with
    | none => exact ⟨(0, fun _ => 0), fun q hq => (by cases hq)⟩
    | some q =>
      obtain ⟨h1, h2⟩ := ck_all k q hk
      obtain ⟨c, iS, hu⟩ := u_known (C := q.1) (T := q.2.1) (N := q.2.2) (n := q.2.2) hts (fun w hw => (h1 w hw).1) (hts _ h2.1)
      exact ⟨(c, iS), fun q' hq' => by cases hq'; exact hu⟩
  obtain ⟨f, hf⟩ := Classical.axiomOfChoice h0
  exact ⟨(fun k => (f k).1, fun k => (f k).2), fun k q hq => hf k q hq⟩
theorem s_arr {s : State} {args : Array Value} {ty : FieldType} (h : (Cond.arrayClass ty).before args s = true) (hno : ∀ C, ty ≠ .object C) : ∃ c : ClassId, ArrOfT s c ty ∧ va_RA s c ty := by
  obtain ⟨c, k, comp, h1, h2, h3⟩ := Cond.arrayClass_spec h
  refine ⟨c, fun n z => ⟨fun _ q => (by cases q), k, h2, comp, h3⟩, ?_⟩
  cases ty with
  | object C => exact absurd rfl (hno C)
  | _ => exact h1
theorem s_arrO {s : State} {args : Array Value} {C : String} (h : (Cond.arrayOver (.object C)).before args s = true) : ∃ c : ClassId, ArrOfT s c (.object C) ∧ va_RA s c (.object C) := by
  obtain ⟨comp, c, k, h1, h2, h3, h4, h5⟩ := Cond.arrayOver_spec h
  exact ⟨c, fun n z => ⟨fun _ q => (by cases q), k, h3, comp, h4⟩, k, comp, h3, h4, h1, h5⟩
theorem s_arrA {s : State} {args : Array Value} {t : FieldType} (h : (Cond.arrayOver (.array t)).before args s = true) : ∃ c : ClassId, ArrOfT s c (.array t) ∧ va_RA s c (.array t) := by
  unfold Cond.before at h
  simp only [Cond.holds, Cond.value, beq_iff_eq] at h
  cases hc : s.vm.findClass (FieldType.array t).toString with
  | none => simp [hc] at h
  | some comp =>
    simp only [hc, Option.bind_some, Option.bind_eq_some_iff, Option.map_eq_some_iff] at h
    obtain ⟨c, hi, k, hk, hb⟩ := h
    cases hkind : k.kind with
    | array component ty =>
      rw [hkind] at hb
      simp at hb
      exact ⟨c, fun n z => ⟨fun _ q => (by cases q), k, hk, component, by rw [hkind, hb.1]⟩, hb.2⟩
    | _ => rw [hkind] at hb; simp at hb
theorem s_K {s : State} {args : Array Value} (hts : ∀ w ∈ lw_tbl, w.before args s = true) : ∃ (D : va_G) (cA : Nat → ClassId), va_K D ft_cls (ft_tys cA) s := by
  obtain ⟨D, hD⟩ := s_D hts
  have g : ∀ (i : Nat) (w : Cond), tables_1[i]? = some w → w.before args s = true := fun i w hi => hts w (List.mem_append_right _ (List.mem_of_getElem? hi))
  obtain ⟨c0, a0⟩ := s_arr (ty := .int) (g 69 _ (by decide +kernel)) (fun C q => by cases q)
  obtain ⟨c1, a1⟩ := s_arr (ty := .long) (g 68 _ (by decide +kernel)) (fun C q => by cases q)
  obtain ⟨c2, a2⟩ := s_arr (ty := .byte) (g 171 _ (by decide +kernel)) (fun C q => by cases q)
  obtain ⟨c3, a3⟩ := s_arr (ty := .boolean) (g 257 _ (by decide +kernel)) (fun C q => by cases q)
  obtain ⟨c4, a4⟩ := s_arrO (C := "ForwardingTable$State") (g 128 _ (by decide +kernel))
  obtain ⟨c5, a5⟩ := s_arrA (t := .int) (g 269 _ (by decide +kernel))
  obtain ⟨c6, a6⟩ := s_arrA (t := .long) (g 271 _ (by decide +kernel))
  refine ⟨D, fun k => [c0, c1, c2, c3, c4, c5, c6].getD k 0, hD, ?_⟩
  intro k q hq
  match k, hq with
  | 0, hq => cases hq; exact a0
  | 1, hq => cases hq; exact a1
  | 2, hq => cases hq; exact a2
  | 3, hq => cases hq; exact a3
  | 4, hq => cases hq; exact a4
  | 5, hq => cases hq; exact a5
  | 6, hq => cases hq; exact a6
  | k + 7, hq => exact absurd (List.getElem?_eq_some_iff.mp hq).1 (by simp [ft_tys])
theorem nests_g : ∀ q ∈ ft_nests, (Cond.methodLinkNest q.1 q.2.1 q.2.2.1 q.2.2.2) ∈ tables_1 := by decide +kernel
theorem s_N {s : State} {args : Array Value} (hts : ∀ w ∈ lw_tbl, w.before args s = true) : ∀ q ∈ ft_nests, va_Nw (.methodLinkNest q.1 q.2.1 q.2.2.1 q.2.2.2) s := fun q hq => va_Nw.of rfl (hts _ (List.mem_append_right _ (nests_g q hq)))
theorem s_X {s : State} {args : Array Value} (hts : ∀ w ∈ lw_tbl, w.before args s = true) : gX s := by
  have g : ∀ (i : Nat) (w : Cond), tables_1[i]? = some w → w.before args s = true := fun i w hi => hts w (List.mem_append_right _ (List.mem_of_getElem? hi))
  exact ⟨s_N hts, va_AO.of (g 128 _ (by decide +kernel)), g 269 (.arrayOver (.array .int)) (by decide +kernel), g 271 (.arrayOver (.array .long)) (by decide +kernel)⟩
