/-! THE PURE MACHINE'S JUDGEMENT. Values: int | long | reference (number of a cell); the heap: h k j is what place j of cell k holds (references are not in it: ft_lay has them, they never change). ft_V K pc L st h R: method K, at pc with locals L, stack st and heap h, returns, and R holds of its answer and the heap then. ft_C K args h R: a call of K does so. -/
abbrev ftV : Type := Int ⊕ Int ⊕ Nat
abbrev ftH : Type := Nat → Nat → Int
abbrev ftM : Type := MethodName × ByteArray × Nat × Option FieldType × Room
def ft_val (ad : Nat → Nat) : ftV → Value
  | .inl z => .int (Int32.ofInt z)
  | .inr (.inl z) => .long (Int64.ofInt z)
  | .inr (.inr k) => .ref (ad k)
def ft_in (z : Int) : Prop := -2147483648 ≤ z ∧ z < 2147483648
def ft_inL (z : Int) : Prop := -9223372036854775808 ≤ z ∧ z < 9223372036854775808
def ft_ok : ftV → Prop
  | .inl z => ft_in z
  | .inr (.inl z) => ft_inL z
  | .inr (.inr _) => True
theorem ft_in_of (x : Int32) : ft_in x.toInt := ⟨by have := Int32.le_toInt x; simpa using this, by have := Int32.toInt_lt x; simpa using this⟩
theorem ft_inL_of (x : Int64) : ft_inL x.toInt := ⟨by have := Int64.le_toInt x; simpa using this, by have := Int64.toInt_lt x; simpa using this⟩
theorem ft_toI {z : Int} (h : ft_in z) : (Int32.ofInt z).toInt = z := Int32.toInt_ofInt_of_le (by simpa using h.1) (by simpa using h.2)
theorem ft_toL {z : Int} (h : ft_inL z) : (Int64.ofInt z).toInt = z := Int64.toInt_ofInt_of_le (by simpa using h.1) (by simpa using h.2)
theorem ft_bk (x : Int32) : Int32.ofInt x.toInt = x := Int32.ofInt_toInt x
theorem ft_bkL (x : Int64) : Int64.ofInt x.toInt = x := Int64.ofInt_toInt x
/-- the locals that are known -/
def ft_lv (ad : Nat → Nat) (L : List (Option ftV)) : List (Nat × Value) := L.zipIdx.filterMap fun q => q.1.map fun v => (q.2, ft_val ad v)
theorem ft_lv_mem {ad : Nat → Nat} {L : List (Option ftV)} {i : Nat} {w : Value} : (i, w) ∈ ft_lv ad L ↔ ∃ v, L[i]? = some (some v) ∧ w = ft_val ad v := by
  unfold ft_lv
  rw [List.mem_filterMap]
  constructor
  · rintro ⟨⟨o, j⟩, hm, he⟩
    rw [List.mem_zipIdx_iff_getElem?] at hm
    cases o with
    | none => simp at he
    | some v =>
      simp only [Option.map_some, Option.some.injEq, Prod.mk.injEq] at he
      obtain ⟨rfl, rfl⟩ := he
      exact ⟨v, hm, rfl⟩
  · rintro ⟨v, hv, rfl⟩
    exact ⟨(some v, i), by rw [List.mem_zipIdx_iff_getElem?]; exact hv, rfl⟩
def ft_isL : Option ftV → Bool
  | some (.inr (.inl _)) => true
  | _ => false
def ft_kl (L : List (Option ftV)) : Nat → List (Option ftV)
  | 0 => L
  | i + 1 => if ft_isL (L.getD i none) = true then L.set i none else L
def ft_st1 (L : List (Option ftV)) (i : Nat) (v : ftV) : List (Option ftV) := (ft_kl L i).set i (some v)
def ft_st2 (L : List (Option ftV)) (i : Nat) (v : ftV) : List (Option ftV) := ((ft_kl L i).set i (some v)).set (i + 1) none
theorem ft_kl_get {L : List (Option ftV)} {i j : Nat} {v : ftV} (h : (ft_kl L i)[j]? = some (some v)) : L[j]? = some (some v) ∧ ¬ (j + 1 = i ∧ ft_isL (some v) = true) := by
  cases i with
  | zero => exact ⟨h, fun q => by omega⟩
  | succ i =>
    simp only [ft_kl] at h
    by_cases c : ft_isL (L.getD i none) = true
    · rw [if_pos c] at h
      by_cases e : j = i
      · subst e
        rw [List.getElem?_set_self'] at h
        cases hq : L[j]? with
        | none => rw [hq] at h; simp at h
        | some o => rw [hq] at h; simp at h
      · rw [List.getElem?_set_ne (fun q => e q.symm)] at h
        exact ⟨h, fun q => e (by omega)⟩
    · rw [if_neg c] at h
      refine ⟨h, fun q => c ?_⟩
      have e : j = i := by omega
      subst e
      rw [List.getD_eq_getElem?_getD, h]
      exact q.2
theorem ft_cat {ad : Nat → Nat} {v : ftV} (h : (ft_val ad v).category = 2) : ft_isL (some v) = true := by
  rcases v with z | z | z
  · cases h
  · rfl
  · cases h
theorem ft_st1_has {ad : Nat → Nat} {ls : Array Slot} {nL : Nat} {L : List (Option ftV)} {i : Nat} {v : ftV} (h : lv_has ls nL ((i, ft_val ad v) :: (ft_lv ad L).filter (fun q => !(q.1 == i) && !(q.1 + 1 == i && q.2.category == 2)))) : lv_has ls nL (ft_lv ad (ft_st1 L i v)) := by
  refine ⟨h.1, h.2.1, fun q hq => h.2.2 q ?_⟩
  obtain ⟨j, w⟩ := q
  obtain ⟨u, hu, rfl⟩ := ft_lv_mem.mp hq
  unfold ft_st1 at hu
  by_cases e : j = i
  · subst e
    rw [List.getElem?_set_self'] at hu
    cases hq : (ft_kl L j)[j]? with
    | none => rw [hq] at hu; simp at hu
    | some o =>
      rw [hq] at hu
      simp only [Option.map_eq_map, Option.map_some, Function.const_apply, Option.some.injEq] at hu
      subst hu
      exact List.mem_cons_self
  · rw [List.getElem?_set_ne (fun q => e q.symm)] at hu
    obtain ⟨h1, h2⟩ := ft_kl_get hu
    refine List.mem_cons_of_mem _ (List.mem_filter.mpr ⟨ft_lv_mem.mpr ⟨u, h1, rfl⟩, ?_⟩)
    simp only [Bool.and_eq_true, Bool.not_eq_true', beq_eq_false_iff_ne, ne_eq, Bool.and_eq_false_iff, beq_iff_eq]
    refine ⟨e, ?_⟩
    by_cases c : j + 1 = i
    · exact Or.inr (fun q => h2 ⟨c, ft_cat q⟩)
    · exact Or.inl c
theorem ft_st2_has {ad : Nat → Nat} {ls : Array Slot} {nL : Nat} {L : List (Option ftV)} {i : Nat} {v : ftV} (h : lv_has ls nL ((i, ft_val ad v) :: (ft_lv ad L).filter (fun q => !(q.1 == i) && (!(q.1 == i + 1) && !(q.1 + 1 == i && q.2.category == 2))))) : lv_has ls nL (ft_lv ad (ft_st2 L i v)) := by
  refine ⟨h.1, h.2.1, fun q hq => h.2.2 q ?_⟩
  obtain ⟨j, w⟩ := q
  obtain ⟨u, hu, rfl⟩ := ft_lv_mem.mp hq
  unfold ft_st2 at hu
  by_cases e1 : j = i + 1
  · subst e1
    rw [List.getElem?_set_self'] at hu
    cases hq : ((ft_kl L i).set i (some v))[i + 1]? with
    | none => rw [hq] at hu; simp at hu
    | some o => rw [hq] at hu; simp at hu
  rw [List.getElem?_set_ne (fun q => e1 q.symm)] at hu
  by_cases e : j = i
  · subst e
    rw [List.getElem?_set_self'] at hu
    cases hq : (ft_kl L j)[j]? with
    | none => rw [hq] at hu; simp at hu
    | some o =>
      rw [hq] at hu
      simp only [Option.map_eq_map, Option.map_some, Function.const_apply, Option.some.injEq] at hu
      subst hu
      exact List.mem_cons_self
  · rw [List.getElem?_set_ne (fun q => e q.symm)] at hu
    obtain ⟨h1, h2⟩ := ft_kl_get hu
    refine List.mem_cons_of_mem _ (List.mem_filter.mpr ⟨ft_lv_mem.mpr ⟨u, h1, rfl⟩, ?_⟩)
    simp only [Bool.and_eq_true, Bool.not_eq_true', beq_eq_false_iff_ne, ne_eq, Bool.and_eq_false_iff, beq_iff_eq]
    refine ⟨e, e1, ?_⟩
    by_cases c : j + 1 = i
    · exact Or.inr (fun q => h2 ⟨c, ft_cat q⟩)
    · exact Or.inl c
theorem ft_set_mem {L : List (Option ftV)} {i : Nat} {o : Option ftV} {v : ftV} (h : some v ∈ L.set i o) : some v ∈ L ∨ some v = o := (List.mem_or_eq_of_mem_set h)
theorem ft_kl_mem {L : List (Option ftV)} {i : Nat} {v : ftV} (h : some v ∈ ft_kl L i) : some v ∈ L := by
  cases i with
  | zero => exact h
  | succ i =>
    simp only [ft_kl] at h
    split at h
    · rcases ft_set_mem h with h | h
      · exact h
      · cases h
    · exact h
theorem ft_st1_mem {L : List (Option ftV)} {i : Nat} {v w : ftV} (h : some w ∈ ft_st1 L i v) : some w ∈ L ∨ w = v := by
  rcases ft_set_mem h with h | h
  · exact Or.inl (ft_kl_mem h)
  · exact Or.inr (Option.some.inj h)
theorem ft_st2_mem {L : List (Option ftV)} {i : Nat} {v w : ftV} (h : some w ∈ ft_st2 L i v) : some w ∈ L ∨ w = v := by
  rcases ft_set_mem h with h | h
  · rcases ft_set_mem h with h | h
    · exact Or.inl (ft_kl_mem h)
    · exact Or.inr (Option.some.inj h)
  · cases h
/-- the locals that stay known, by a mask -/
def ft_mask : List (Option ftV) → List Bool → List (Option ftV)
  | o :: L, b :: M => (if b then o else none) :: ft_mask L M
  | _, _ => []
theorem ft_mask_get : ∀ (L : List (Option ftV)) (M : List Bool) (i : Nat) (v : ftV), (ft_mask L M)[i]? = some (some v) → L[i]? = some (some v)
  | o :: L, b :: M, 0, v, h => by
    cases b
    · simp [ft_mask] at h
    · simpa [ft_mask] using h
  | o :: L, b :: M, i + 1, v, h => by
    simp only [ft_mask, List.getElem?_cons_succ] at h ⊢
    exact ft_mask_get L M i v h
  | [], _, i, v, h => by simp [ft_mask] at h
  | _ :: _, [], i, v, h => by simp [ft_mask] at h
/-! the heap's cells -/
def ft_flds (ad : Nat → Nat) (h : ftH) (k ci : Nat) : List Value := (ft_fk ci).mapIdx fun j t => if t = 0 then .int (Int32.ofInt (h k j)) else if t = 1 then .long (Int64.ofInt (h k j)) else .ref (ad (ft_lay k j))
def ft_arr (ad : Nat → Nat) (h : ftH) (k t : Nat) : (Nat → Int32) ⊕ (Nat → Int64) ⊕ (Nat → UInt32) ⊕ (Nat → UInt64) ⊕ (Nat → Option Nat) :=
  if t = 1 then .inr (.inl fun j => Int64.ofInt (h k j)) else if t < 4 then .inl fun j => Int32.ofInt (h k j) else .inr (.inr (.inr (.inr fun j => some (ad (ft_lay k j)))))
def ft_cell (ad : Nat → Nat) (cA : Nat → ClassId) (h : ftH) (k : Nat) : Nat ⊕ Nat × Nat → va_E
  | .inl ci => .inr (ci, ft_flds ad h k ci)
  | .inr q => .inl (cA q.1, q.2, ft_arr ad h k q.1)
def ft_ws (ad : Nat → Nat) (cA : Nat → ClassId) (h : ftH) : va_W := ft_shapes.mapIdx fun k sh => (ad k, ft_cell ad cA h k sh)
def ft_tys (cA : Nat → ClassId) : List (ClassId × FieldType) := [(cA 0, .int), (cA 1, .long), (cA 2, .byte), (cA 3, .boolean), (cA 4, .object "ForwardingTable$State"), (cA 5, .array .int), (cA 6, .array .long)]
def ft_A (ad : Nat → Nat) : Nat → Prop := fun q => ∃ k, k < ft_shapes.length ∧ q = ad k
theorem ft_ws_get {ad : Nat → Nat} {cA : Nat → ClassId} {h : ftH} {k : Nat} {sh : Nat ⊕ Nat × Nat} (hk : ft_sh k = some sh) : (ft_ws ad cA h)[k]? = some (ad k, ft_cell ad cA h k sh) := by
  unfold ft_sh at hk
  simp [ft_ws, List.getElem?_mapIdx, hk]
/-- is it a long that place j of cell k holds? -/
def ft_lg (k j : Nat) : Bool := match ft_sh k with
  | some (.inl ci) => (ft_fk ci).getD j 0 == 1
  | some (.inr q) => q.1 == 1
  | none => false
def ft_wf (h : ftH) : Prop := ∀ k j, if ft_lg k j = true then ft_inL (h k j) else ft_in (h k j)
def ft_hs (h : ftH) (k j : Nat) (z : Int) : ftH := fun k' j' => if k' = k ∧ j' = j then z else h k' j'
theorem ft_wf_hs {h : ftH} {k j : Nat} {z : Int} (hw : ft_wf h) (hz : if ft_lg k j = true then ft_inL z else ft_in z) : ft_wf (ft_hs h k j z) := by
  intro a b
  unfold ft_hs
  by_cases c : a = k ∧ b = j
  · rw [if_pos c, c.1, c.2]
    exact hz
  · rw [if_neg c]
    exact hw a b
/-- the five texts of the class, and the two statics of the JDK's that are read: texts stand at ad 333 .. 337, their bytes at ad 338 .. 342 -/
def ft_strI : List Nat := [109, 114, 116, 118, 120]
def ft_strT : List String := ["capacity", "route", "hop", "seen", "times"]
def ft_strL : List Nat := [8, 5, 3, 4, 5]
def ft_strB : List (List Int32) := [[99, 97, 112, 97, 99, 105, 116, 121], [114, 111, 117, 116, 101], [104, 111, 112], [115, 101, 101, 110], [116, 105, 109, 101, 115]]
def ft_ES (ad : Nat → Nat) (U : State) (H : Heap) : Prop := (∀ i, i < 5 → vk_R "ForwardingTable$Tape" (ft_strI.getD i 0) (ft_strT.getD i "") (ad (333 + i)) U) ∧ vk_S 5 ft_strL ft_strB (fun i => ad (333 + i)) (fun i => ad (338 + i)) (ft_A ad) U H ∧ va_Z "java/lang/String" "COMPACT_STRINGS" "Z" (.int 1) (ft_A ad) U H ∧ ∃ v : Value, v.category = 1 ∧ va_Z "jdk/internal/util/Preconditions" "SIOOBE_FORMATTE\x52" "Ljava/util/function/BiFunction;" v (ft_A ad) U H
def ft_E (ad : Nat → Nat) (U : State) (H : Heap) : Prop := (∀ q ∈ ft_nests, va_Nw (.methodLinkNest q.1 q.2.1 q.2.2.1 q.2.2.2) U) ∧ ft_ES ad U H
theorem ft_E.same {ad : Nat → Nat} {u U : State} {H : Heap} (h : u.vm = U.vm) (hE : ft_E ad u H) : ft_E ad U H := by
  have ha : u.vm.Alike U.vm := h ▸ Vm.Alike.refl u.vm
  obtain ⟨h1, h2, h3, h4, v, h6, h5⟩ := hE
  exact ⟨fun q hq => (h1 q hq).same rfl h, fun i hi => (h2 i hi).same h.symm, h3.moved ha, h4.moved ha, v, h6, h5.moved ha⟩
theorem ft_E.warm {ad : Nat → Nat} {s U : State} {H : Heap} (hW : s.WarmedH U.vm) (hE : ft_E ad s H) : ft_E ad U H := by
  obtain ⟨h1, h2, h3, h4, v, h6, h5⟩ := hE
  exact ⟨fun q hq => (h1 q hq).warmM hW, fun i hi => (h2 i hi).warm hW, h3.moved hW.alike, h4.moved hW.alike, v, h6, h5.moved hW.alike⟩
theorem ft_E.kept {ad : Nat → Nat} {U : State} {H H1 : Heap} (hq : ∀ a : Nat, a < H.size → ¬ ft_A ad a → H1[a]? = H[a]?) (hE : ft_E ad U H) : ft_E ad U H1 := by
  obtain ⟨h1, h2, h3, h4, v, h6, h5⟩ := hE
  exact ⟨h1, h2, h3.kept hq, h4.kept hq, v, h6, h5.kept hq⟩
/-- what a call finds, and leaves -/
def ft_P0 (D : va_G) (ad : Nat → Nat) (cA : Nat → ClassId) (h : ftH) (U : State) : Prop := va_P D ft_cls (ft_ws ad cA h) U.heap ∧ va_K D ft_cls (ft_tys cA) U ∧ va_D (ft_A ad) (ft_ws ad cA h) ∧ ft_wf h
def ft_Q (ret : Option FieldType) (R : Option ftV → ftH → Prop) (D : va_G) (ad : Nat → Nat) (cA : Nat → ClassId) : Array Value → State → Outcome → State → Prop := match ret with
  | none => va_Qv (fun h' : ftH => R none h') (fun h' t => ft_P0 D ad cA h' t) (ft_A ad)
  | some .long => va_Ql (fun r (h' : ftH) => R (some (.inr (.inl r.toInt))) h') (fun h' t => ft_P0 D ad cA h' t) (ft_A ad)
  | some _ => va_Qi (fun r (h' : ftH) => R (some (.inl r.toInt)) h') (fun h' t => ft_P0 D ad cA h' t) (ft_A ad)
def ft_Cx (K : ftM) (p : Program) (s : State) (m : MethodId) (args : Array Value) (meth : Method) (c : Code) (D : va_G) (ad : Nat → Nat) (cA : Nat → ClassId) : Prop :=
  p.tables.exec = Jvm.exec ∧ c.code = K.2.1 ∧ meth.sig.returnType = K.2.2.2.1 ∧ c.maxLocals = K.2.2.1 ∧ s.vm.findClass K.1.cls = some m.cls ∧ (∀ w ∈ lw_tbl, goodWord w = true → w.before args s = true) ∧ meth.locks = false ∧ va_K D ft_cls (ft_tys cA) s ∧ ft_E ad s s.heap
def ft_Rp (D : va_G) (ad : Nat → Nat) (cA : Nat → ClassId) (h : ftH) (H H0 : Heap) (locs : List Loc) : Prop := va_P D ft_cls (ft_ws ad cA h) H ∧ va_D (ft_A ad) (ft_ws ad cA h) ∧ va_S (ft_A ad) H0 H locs ∧ ft_wf h
def ft_V (K : ftM) (pc : Nat) (L : List (Option ftV)) (st : List ftV) (h : ftH) (R : Option ftV → ftH → Prop) : Prop :=
  ∀ (p : Program) (l : Launch) (e : Env) (s : State) (m : MethodId) (args : Array Value) (below : List Frame) (meth : Method) (c : Code) (D : va_G) (ad : Nat → Nat) (cA : Nat → ClassId) (H : Heap) (locs : List Loc) (ls : Array Slot),
    ft_Cx K p s m args meth c D ad cA → ft_Rp D ad cA h H s.heap locs → (∀ v, some v ∈ L → ft_ok v) → (∀ v ∈ st, ft_ok v) → lv_has ls K.2.2.1 (ft_lv ad L) →
    W p l e K.2.2.2.2 s m args below meth c H locs 0 0 (MQ below (ft_Q K.2.2.2.1 R D ad cA) args s 0 0 (ft_A ad)) (F0 m pc ls (st.map (ft_val ad)))
def ft_wk (K : ftM) : List Cond := .code K.1 K.2.1 K.2.2.1 K.2.2.2.1 :: lw_tbl.filter goodWord
def ft_C (K : ftM) (args : List ftV) (h : ftH) (R : Option ftV → ftH → Prop) : Prop :=
  ∀ (l : Launch) (D : va_G) (ad : Nat → Nat) (cA : Nat → ClassId), Met l K.1 (ft_wk K) K.2.2.2.2 (va_Pc (args.map (ft_val ad)) (fun U => ft_P0 D ad cA h U ∧ ft_E ad U U.heap ∧ ∀ v ∈ args, ft_ok v)) (ft_Q K.2.2.2.1 R D ad cA) 0 0 (ft_A ad)
