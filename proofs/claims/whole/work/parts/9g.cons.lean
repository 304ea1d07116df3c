/-! CONSTRUCTORS: a world that grows. n cells are made; z: which places of references are set; h: the numbers (0 where no cell is yet) -/
abbrev gZ : Type := List (Nat × Nat)
def gfl (ad : Nat → Nat) (h : ftH) (z : gZ) (k ci : Nat) : List Value := (ft_fk ci).mapIdx fun j t => if t = 0 then .int (Int32.ofInt (h k j)) else if t = 1 then .long (Int64.ofInt (h k j)) else if (k, j) ∈ z then .ref (ad (ft_lay k j)) else .null
def gar (ad : Nat → Nat) (h : ftH) (z : gZ) (k t : Nat) : (Nat → Int32) ⊕ (Nat → Int64) ⊕ (Nat → UInt32) ⊕ (Nat → UInt64) ⊕ (Nat → Option Nat) :=
  if t = 1 then .inr (.inl fun j => Int64.ofInt (h k j)) else if t < 4 then .inl fun j => Int32.ofInt (h k j) else .inr (.inr (.inr (.inr fun j => if (k, j) ∈ z then some (ad (ft_lay k j)) else none)))
def gcl (ad : Nat → Nat) (cA : Nat → ClassId) (h : ftH) (z : gZ) (k : Nat) : Nat ⊕ Nat × Nat → va_E
  | .inl ci => .inr (ci, gfl ad h z k ci)
  | .inr q => .inl (cA q.1, q.2, gar ad h z k q.1)
def gws (ad : Nat → Nat) (cA : Nat → ClassId) (h : ftH) (z : gZ) (n : Nat) : va_W := (ft_shapes.take n).mapIdx fun k sh => (ad k, gcl ad cA h z k sh)
theorem gws_get {ad : Nat → Nat} {cA : Nat → ClassId} {h : ftH} {z : gZ} {n k : Nat} {sh : Nat ⊕ Nat × Nat} (hk : ft_sh k = some sh) (hn : k < n) : (gws ad cA h z n)[k]? = some (ad k, gcl ad cA h z k sh) := by
  unfold ft_sh at hk
  simp [gws, List.getElem?_mapIdx, List.getElem?_take, hn, hk]
theorem gws_none {ad : Nat → Nat} {cA : Nat → ClassId} {h : ftH} {z : gZ} {n k : Nat} (hn : n ≤ k) : (gws ad cA h z n)[k]? = none := by
  simp [gws, List.getElem?_mapIdx, List.getElem?_take, show ¬ k < n by omega]
/-- all references lead to cells that are made -/
def gzk (h : ftH) (z : gZ) (n : Nat) : Prop := ft_wf h ∧ (∀ k, n ≤ k → ∀ j, h k j = 0) ∧ ∀ q ∈ z, q.1 < n ∧ ft_lay q.1 q.2 < n
theorem gcl_ad {ad ad' : Nat → Nat} {cA : Nat → ClassId} {h : ftH} {z : gZ} {n k : Nat} {sh : Nat ⊕ Nat × Nat} (hz : ∀ q ∈ z, ft_lay q.1 q.2 < n) (ha : ∀ k, k < n → ad' k = ad k) : gcl ad' cA h z k sh = gcl ad cA h z k sh := by
  rcases sh with ci | q
  · simp only [gcl, gfl]
    congr 2
    apply List.ext_getElem?
    intro i
    rw [List.getElem?_mapIdx, List.getElem?_mapIdx]
    cases (ft_fk ci)[i]? with
    | none => rfl
    | some t =>
      simp only [Option.map_some]
      congr 1
      by_cases c : (k, i) ∈ z
      · rw [if_pos c, if_pos c, ha _ (hz _ c)]
      · rw [if_neg c, if_neg c]
  · simp only [gcl, gar]
    congr 3
    by_cases c1 : q.1 = 1
    · rw [if_pos c1, if_pos c1]
    · rw [if_neg c1, if_neg c1]
      by_cases c2 : q.1 < 4
      · rw [if_pos c2, if_pos c2]
      · rw [if_neg c2, if_neg c2]
        congr 4
        funext j
        by_cases c : (k, j) ∈ z
        · rw [if_pos c, if_pos c, ha _ (hz _ c)]
        · rw [if_neg c, if_neg c]
theorem gws_push {ad ad' : Nat → Nat} {cA : Nat → ClassId} {h : ftH} {z : gZ} {n : Nat} {sh : Nat ⊕ Nat × Nat} (hn : ft_sh n = some sh) (hz : ∀ q ∈ z, ft_lay q.1 q.2 < n) (ha : ∀ k, k < n → ad' k = ad k) : gws ad' cA h z (n + 1) = gws ad cA h z n ++ [(ad' n, gcl ad' cA h z n sh)] := by
  have hl : n < ft_shapes.length := by
    unfold ft_sh at hn
    exact (List.getElem?_eq_some_iff.mp hn).1
  have hlen : (gws ad cA h z n).length = n := by simp [gws]; omega
  apply List.ext_getElem?
  intro i
  by_cases c : i < n
  · rw [List.getElem?_append_left (by omega)]
    have hi : ∃ s, ft_sh i = some s := ⟨ft_shapes[i], List.getElem?_eq_getElem (by omega)⟩
    obtain ⟨s, hs⟩ := hi
    rw [gws_get hs (by omega), gws_get hs c, ha i c, gcl_ad hz ha]
  · by_cases e : i = n
    · subst e
      rw [List.getElem?_append_right (by omega), hlen, Nat.sub_self, gws_get hn (by omega)]
      rfl
    · rw [gws_none (by omega), List.getElem?_append_right (by omega), hlen]
      exact (List.getElem?_eq_none (by simp; omega)).symm
theorem gws_upd {ad : Nat → Nat} {cA : Nat → ClassId} {h h' : ftH} {z z' : gZ} {n k : Nat} {sh : Nat ⊕ Nat × Nat} (hk : ft_sh k = some sh) (hn : k < n) (hh : ∀ a, a ≠ k → h' a = h a) (hz : ∀ a j, a ≠ k → ((a, j) ∈ z' ↔ (a, j) ∈ z)) : (gws ad cA h z n).set k (ad k, gcl ad cA h' z' k sh) = gws ad cA h' z' n := by
  apply List.ext_getElem?
  intro i
  by_cases e : i = k
  · subst e
    rw [List.getElem?_set_self', gws_get hk hn, gws_get hk hn]
    rfl
  · rw [List.getElem?_set_ne (fun q => e q.symm)]
    by_cases c : i < n
    · unfold gws
      rw [List.getElem?_mapIdx, List.getElem?_mapIdx]
      cases (ft_shapes.take n)[i]? with
      | none => rfl
      | some s =>
        simp only [Option.map_some]
        congr 2
        rcases s with ci | q
        · simp only [gcl, gfl, hh i e, hz i _ e]
        · simp only [gcl, gar, hh i e, hz i _ e]
    · rw [gws_none (by omega), gws_none (by omega)]
def gr (n : Nat) : ftV → Prop
  | .inr (.inr k) => k < n
  | _ => True
theorem gr_mono {n n' : Nat} (h : n ≤ n') {v : ftV} (hv : gr n v) : gr n' v := by
  rcases v with x | x | x
  · trivial
  · trivial
  · exact Nat.lt_of_lt_of_le hv h
theorem gr_val {n : Nat} {ad ad' : Nat → Nat} (ha : ∀ k, k < n → ad' k = ad k) {v : ftV} (hv : gr n v) : ft_val ad' v = ft_val ad v := by
  rcases v with x | x | x
  · rfl
  · rfl
  · simp only [ft_val]; rw [ha x hv]
theorem gr_map {n : Nat} {ad ad' : Nat → Nat} (ha : ∀ k, k < n → ad' k = ad k) {st : List ftV} (hv : ∀ v ∈ st, gr n v) : st.map (ft_val ad') = st.map (ft_val ad) := List.map_congr_left (fun v hm => gr_val ha (hv v hm))
theorem gr_lv {n : Nat} {ad ad' : Nat → Nat} (ha : ∀ k, k < n → ad' k = ad k) {L : List (Option ftV)} (hv : ∀ v, some v ∈ L → gr n v) {ls : Array Slot} {nL : Nat} (hl : lv_has ls nL (ft_lv ad L)) : lv_has ls nL (ft_lv ad' L) := by
  refine ⟨hl.1, hl.2.1, fun q hq => hl.2.2 q ?_⟩
  obtain ⟨j, w⟩ := q
  obtain ⟨u, hu, rfl⟩ := ft_lv_mem.mp hq
  exact ft_lv_mem.mpr ⟨u, hu, gr_val ha (hv u (List.mem_of_getElem? hu))⟩
def gAO (ty : FieldType) (U : State) : Prop := (Cond.arrayOver ty).before #[] U = true
/-- the words that only some machine states have: links between nest mates, array classes of references -/
def gX (U : State) : Prop := (∀ q ∈ ft_nests, va_Nw (.methodLinkNest q.1 q.2.1 q.2.2.1 q.2.2.2) U) ∧ va_AO "ForwardingTable$State" U ∧ gAO (.array .int) U ∧ gAO (.array .long) U
def gCx (K : ftM) (p : Program) (s : State) (m : MethodId) (args : Array Value) (meth : Method) (c : Code) (D : va_G) (cA : Nat → ClassId) : Prop :=
  p.tables.exec = Jvm.exec ∧ c.code = K.2.1 ∧ meth.sig.returnType = none ∧ c.maxLocals = K.2.2.1 ∧ s.vm.findClass K.1.cls = some m.cls ∧ (∀ w ∈ lw_tbl, goodWord w = true → w.before args s = true) ∧ meth.locks = false ∧ va_K D ft_cls (ft_tys cA) s ∧ gX s ∧ meth.name = "<init>"
abbrev gU : Type := (Nat → Nat) × Nat × ftH × gZ
def gQ (n0 : Nat) (ad0 : Nat → Nat) (R : Nat → ftH → gZ → Prop) (D : va_G) (cA : Nat → ClassId) (A : Nat → Prop) : Array Value → State → Outcome → State → Prop := va_Qv (fun u : gU => (∀ k, k < n0 → u.1 k = ad0 k) ∧ R u.2.1 u.2.2.1 u.2.2.2) (fun u t => va_P D ft_cls (gws u.1 cA u.2.2.1 u.2.2.2 u.2.1) t.heap ∧ va_K D ft_cls (ft_tys cA) t ∧ va_D A (gws u.1 cA u.2.2.1 u.2.2.2 u.2.1) ∧ gzk u.2.2.1 u.2.2.2 u.2.1) A
def gV (K : ftM) (pc : Nat) (L : List (Option ftV)) (st : List ftV) (n : Nat) (h : ftH) (z : gZ) (ce sl : Nat) (n0 : Nat) (R : Nat → ftH → gZ → Prop) : Prop :=
  ∀ (p : Program) (l : Launch) (e : Env) (s : State) (m : MethodId) (args : Array Value) (below : List Frame) (meth : Method) (c : Code) (D : va_G) (ad0 ad : Nat → Nat) (cA : Nat → ClassId) (A : Nat → Prop) (H : Heap) (locs : List Loc) (ls : Array Slot),
    gCx K p s m args meth c D cA → (∀ k, k < n0 → ad k = ad0 k) ∧ n0 ≤ n → va_P D ft_cls (gws ad cA h z n) H → va_D A (gws ad cA h z n) → va_S A s.heap H locs → (∀ q, s.heap.size ≤ q → A q) → gzk h z n → (∀ v, some v ∈ L → ft_ok v ∧ gr n v) → (∀ v ∈ st, ft_ok v ∧ gr n v) → lv_has ls K.2.2.1 (ft_lv ad L) →
    W p l e K.2.2.2.2 s m args below meth c H locs ce sl (MQ below (gQ n0 ad0 R D cA A) args s K.2.2.2.2.cells K.2.2.2.2.slots A) (F0 m pc ls (st.map (ft_val ad)))
def gC (K : ftM) (av : List ftV) (n : Nat) (h : ftH) (z : gZ) (R : Nat → ftH → gZ → Prop) : Prop :=
  ∀ (l : Launch) (D : va_G) (ad : Nat → Nat) (cA : Nat → ClassId) (sz : Nat), Met l K.1 (ft_wk K) K.2.2.2.2 (va_Pc (av.map (ft_val ad)) (fun U => U.heap.size = sz ∧ (va_P D ft_cls (gws ad cA h z n) U.heap ∧ va_K D ft_cls (ft_tys cA) U ∧ va_D (fun _ => True) (gws ad cA h z n) ∧ gzk h z n) ∧ gX U ∧ ∀ v ∈ av, ft_ok v ∧ gr n v)) (gQ n ad R D cA (va_A (gws ad cA h z n) sz)) K.2.2.2.2.cells K.2.2.2.2.slots (va_A (gws ad cA h z n) sz)
theorem g_enter {K : ftM} {av : List ftV} {n : Nat} {h : ftH} {z : gZ} {R : Nat → ftH → gZ → Prop} {L : List (Option ftV)} {j : Nat} (hy : plainName K.1.cls = true) (hr : K.2.2.2.1 = none) (hi : K.1.name = "<init>") (hn : (ft_ent av).length ≤ K.2.2.1) (hL0 : ft_ent av ++ List.replicate j none = L) (k : gV K 0 L [] n h z 0 0 n R) : gC K av n h z R := by
  intro l D ad cA sz
  refine Met.ofW (cc := K.2.1) (maxL := K.2.2.1) (ret := K.2.2.2.1) hy rfl ?_
  intro p e s m args below meth c s₁ B hml hv
  obtain ⟨rfl, rfl, ⟨hP, hK, hD, hz⟩, hX, hok⟩ := hv
  rw [lg_entry_eq]
  have hl := lv_entry (av.map (ft_val ad)) (n := K.2.2.1) (by rw [ft_ent_len]; exact hn)
  have hget : ∀ (i : Nat) (v : ftV), L[i]? = some (some v) → (ft_ent av)[i]? = some (some v) := by
    intro i v hi
    rw [← hL0] at hi
    by_cases c : i < (ft_ent av).length
    · rwa [List.getElem?_append_left c] at hi
    · rw [List.getElem?_append_right (by omega)] at hi
      have := List.eq_of_mem_replicate (List.mem_of_getElem? hi)
      cases this
  refine k p l e s m _ below meth c D ad ad cA (va_A (gws ad cA h z n) s.heap.size) s.heap [] _ ⟨B.exec, B.bytes, B.returns.trans hr, hml, findClass_of_methodNamed B.named, fun w hw hg => atoms_spec (ws := ft_wk K) B.pre w (List.mem_cons_of_mem _ (List.mem_filter.mpr ⟨hw, hg⟩)), B.notSynchronized, hK, hX, ((name_of_methodNamed B.named B.method).1).trans hi⟩ ⟨fun _ _ => rfl, Nat.le_refl n⟩ hP hD.self va_S.rf (fun q hq => Or.inr hq) hz (fun v hv => ?_) (fun v hv => by cases hv) ⟨hl.1, hl.2.1, fun q hq => ?_⟩
  · obtain ⟨i, hi⟩ := List.getElem?_of_mem hv
    exact hok v (ft_ent_mem av (List.mem_of_getElem? (hget i v hi)))
  · obtain ⟨i, w⟩ := q
    obtain ⟨v, hv, rfl⟩ := ft_lv_mem.mp hq
    have := ft_ent_args ad av 0 i v (hget i v hv)
    rw [Nat.zero_add] at this
    exact hl.2.2 _ this
