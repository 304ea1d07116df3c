/-! new T[n][m]: the machine's step, over the library without Shelf42 -/
/-- the outer array at b when i of its rows stand behind it -/
def mgO (c : ClassId) (N b i : Nat) : Cell := arrV c N (fun j => va_rf (if j < i then some (b + 1 + j) else none))
/-- the state when i rows stand, each of them the cell r -/
def mgF (V : State) (c : ClassId) (N : Nat) (r : Cell) : Nat → State
  | 0 => V.pushCell (mgO c N V.heap.size 0)
  | i + 1 => ((mgF V c N r i).pushCell r).setCell V.heap.size (mgO c N V.heap.size (i + 1))
theorem mgO_new (c : ClassId) (N b : Nat) : ({ cls := c, slots := Array.replicate N .null } : Cell) = mgO c N b 0 := by
  refine (arrV_new c N .null).trans (congrArg (arrV c N) (funext fun j => ?_))
  rw [if_neg (Nat.not_lt_zero j)]
  rfl
theorem mgO_put (c : ClassId) (N b i : Nat) : (mgO c N b i).setSlot i (.ref (b + 1 + i)) = mgO c N b (i + 1) := by
  unfold mgO
  rw [arrV_store]
  refine congrArg (arrV c N) (funext fun j => ?_)
  unfold updV
  by_cases h : j = i
  · rw [if_pos h, if_pos (by omega), h]
    rfl
  · rw [if_neg h]
    by_cases h2 : j < i
    · show va_rf (if j < i then _ else _) = _
      rw [if_pos h2, if_pos (by omega)]
    · show va_rf (if j < i then _ else _) = _
      rw [if_neg h2, if_neg (by omega)]
theorem mgO_sz (c : ClassId) (N b i : Nat) : (mgO c N b i).slots.size = N := by simp [mgO, arrV]
/-- what stands at each address -/
theorem mgF_all (V : State) (c : ClassId) (N : Nat) (r : Cell) : ∀ i : Nat, (mgF V c N r i).vm = V.vm ∧ (mgF V c N r i).heap.size = V.heap.size + 1 + i ∧ (mgF V c N r i).slotsUsed = V.slotsUsed + N + i * r.slots.size ∧
    ∀ a : Nat, a < V.heap.size + 1 + i → (mgF V c N r i).heap[a]? = if a < V.heap.size then V.heap[a]? else if a = V.heap.size then some (mgO c N V.heap.size i) else some r
  | 0 => by
    refine ⟨rfl, by simp [mgF], ?_, fun a ha => ?_⟩
    · show V.slotsUsed + (mgO c N V.heap.size 0).slots.size = _
      rw [mgO_sz, Nat.zero_mul]
      rfl
    · show (V.heap.push (mgO c N V.heap.size 0))[a]? = _
      rw [Array.getElem?_push]
      by_cases h : a = V.heap.size
      · rw [if_pos h, if_neg (by omega), if_pos h]
      · rw [if_neg h, if_pos (by omega)]
  | i + 1 => by
    obtain ⟨h1, h2, h3, h4⟩ := mgF_all V c N r i
    refine ⟨h1, ?_, ?_, fun a ha => ?_⟩
    · show (((mgF V c N r i).heap.push r).setIfInBounds V.heap.size (mgO c N V.heap.size (i + 1))).size = _
      rw [Array.size_setIfInBounds, Array.size_push, h2]
      omega
    · show (mgF V c N r i).slotsUsed + r.slots.size = _
      rw [h3, Nat.succ_mul]
      omega
    · show (((mgF V c N r i).heap.push r).setIfInBounds V.heap.size (mgO c N V.heap.size (i + 1)))[a]? = _
      rw [Array.getElem?_setIfInBounds]
      by_cases h : V.heap.size = a
      · rw [if_pos h, if_pos (by rw [Array.size_push, h2]; omega), if_neg (by omega), if_pos h.symm]
      · rw [if_neg h, Array.getElem?_push, h2]
        by_cases h5 : a = V.heap.size + 1 + i
        · rw [if_pos h5, if_neg (by omega), if_neg (by omega)]
        · rw [if_neg h5, h4 a (by omega), if_neg (fun q : a = V.heap.size => h q.symm), if_neg (fun q : a = V.heap.size => h q.symm)]
theorem mgF_base (V : State) (c : ClassId) (N : Nat) (r : Cell) (i : Nat) : (mgF V c N r i).heap[V.heap.size]? = some (mgO c N V.heap.size i) := by
  rw [(mgF_all V c N r i).2.2.2 _ (by omega), if_neg (Nat.lt_irrefl _), if_pos rfl]
/-- the same, when one row more has just been made -/
theorem mgF_base1 (V : State) (c : ClassId) (N : Nat) (r r2 : Cell) (i : Nat) : ((mgF V c N r i).pushCell r2).heap[V.heap.size]? = some (mgO c N V.heap.size i) := by
  show ((mgF V c N r i).heap.push r2)[V.heap.size]? = _
  rw [Array.getElem?_push, if_neg (by rw [(mgF_all V c N r i).2.1]; omega)]
  exact mgF_base V c N r i
theorem mgF_top (V : State) (f : JFrame) (c : ClassId) (N : Nat) (r : Cell) : ∀ i : Nat, mgF (V.setTop f) c N r i = (mgF V c N r i).setTop f
  | 0 => rfl
  | i + 1 => by
    show ((mgF (V.setTop f) c N r i).pushCell r).setCell V.heap.size (mgO c N V.heap.size (i + 1)) = _
    rw [mgF_top V f c N r i]
    rfl
/-- a loop over the numbers from i up to N, whose states are known ahead -/
theorem mg_loop {E : CtlPost} {e : Env} {N : Nat} {S : Nat → State} {f : Nat → PUnit → Sem (ForInStep PUnit)} {Q : PUnit → Pre} (hf : ∀ i : Nat, i < N → ∀ (Q' : ForInStep PUnit → Pre) (d : Bool) (acts : List Action), (∀ (d' : Bool) (acts' : List Action), Q' (.yield ⟨⟩) d' acts' (S (i + 1))) → wp (f i ⟨⟩) Q' E e d acts (S i)) (hq : ∀ (d : Bool) (acts : List Action), Q ⟨⟩ d acts (S N)) :
    ∀ (q i : Nat), i + q = N → ∀ (d : Bool) (acts : List Action), wp (forIn (List.range' i q) PUnit.unit f) Q E e d acts (S i)
  | 0, i, h, d, acts => by
    have h0 : i = N := h
    subst h0
    rw [List.range'_zero, List.forIn_nil, wp_pure']
    exact hq d acts
  | q + 1, i, h, d, acts => by
    rw [List.range'_succ, List.forIn_cons, wp_bind']
    exact hf i (by omega) _ d acts (fun d' acts' => mg_loop hf hq q (i + 1) (by omega) d' acts')
theorem mg_rf {t : FieldType} {v : Value} (h : v = .null ∨ ∃ a, v = .ref a) : fits (.array t) v = true := by
  rcases h with h | ⟨a, h⟩ <;> rw [h] <;> rfl
/-- the model's making of an array of rows -/
theorem mg_make {E : CtlPost} {e : Env} {d : Bool} {acts : List Action} {V : State} {c cy c2 : ClassId} {k kc : Class} {ty : FieldType} {n m : Int32} {N M : Nat} {Q : Addr → Pre} (hN : n.toNatClampNeg = N) (hM : m.toNatClampNeg = M) (hk : V.vm.classes[c]? = some k) (hkd : k.kind = .array cy (.array ty)) (hkc : V.vm.classes[cy]? = some kc) (hkcd : kc.kind = .array c2 ty) (hn : ¬ n < 0) (hm : ¬ m < 0)
    (l1 : ¬ N > e.platform.arrayLengthLimit) (b1 : ¬ N * componentBytes (.array ty) > e.platform.maxHeapBytes) (l2 : ¬ M > e.platform.arrayLengthLimit) (b2 : ¬ M * componentBytes ty > e.platform.maxHeapBytes) (hdf : fits ty (defaultValue ty) = true) (hce : V.heap.size + 1 + N ≤ e.platform.maxCells) (hsl : V.slotsUsed + N + N * M ≤ e.platform.maxSlots)
    (hq : ∀ (d' : Bool) (acts' : List Action), Q V.heap.size d' acts' (mgF V c N (arrV cy M (fun _ => defaultValue ty)) N)) : wp (multianewarray.make c [n, m]) Q E e d acts V := by
  have hnone : [m].find? (· < 0) = none := by simp [hm]
  have rsz : (arrV cy M (fun _ => defaultValue ty)).slots.size = M := by simp [arrV]
  have row : ∀ (i : Nat), i < N → ∀ (Q' : Addr → Pre) (d' : Bool) (acts' : List Action), (∀ acts'', Q' (V.heap.size + 1 + i) d' acts'' ((mgF V c N (arrV cy M (fun _ => defaultValue ty)) i).pushCell (arrV cy M (fun _ => defaultValue ty)))) → wp (multianewarray.make cy [m]) Q' E e d' acts' (mgF V c N (arrV cy M (fun _ => defaultValue ty)) i) := by
    intro i hi Q' d' acts' hq'
    obtain ⟨h1, h2, h3, -⟩ := mgF_all V c N (arrV cy M (fun _ => defaultValue ty)) i
    have hmul : i * M + M ≤ N * M := by
      rw [← Nat.succ_mul]
      exact Nat.mul_le_mul_right M hi
    rw [multianewarray.make]
    simp only [wp_bind', Jvm.W.ite, hm, if_false, wp_pure', Jvm.W.theClass, h1, hkc, hkcd, Option.some.injEq, exists_eq_left']
    refine Jvm.W.newArray_of (by rw [h1]; exact hkc) hkcd (by rw [hM]; exact l2) (by rw [hM]; exact b2) (by rw [h2]; omega) (by rw [h3, hM, rsz]; omega) hdf (fun acts'' => ?_)
    rw [h2, hM]
    have := hq' acts''
    rw [← arrV_new] at this ⊢
    exact this
  rw [multianewarray.make]
  simp only [wp_bind', Jvm.W.ite, hn, if_false, wp_pure', Jvm.W.theClass, hk, hkd, Option.some.injEq, exists_eq_left']
  refine Jvm.W.newArray_of hk hkd (by rw [hN]; exact l1) (by rw [hN]; exact b1) (by omega) (by rw [hN]; omega) (mg_rf (Or.inl rfl)) (fun acts' => ?_)
  simp only [hnone]
  rw [ite_self, wp_bind', hN, mgO_new c N V.heap.size, Std.Legacy.Range.forIn_eq_forIn_range']
  have hsz : ([:N] : Std.Legacy.Range).size = N := by simp [Std.Legacy.Range.size]
  rw [hsz]
  refine mg_loop (N := N) (S := mgF V c N (arrV cy M (fun _ => defaultValue ty))) (fun i hi Q' d' acts'' hy => ?_) (fun d' acts'' => ?_) N 0 (Nat.zero_add N) d acts'
  · simp only [wp_bind']
    refine row i hi _ d' acts'' (fun acts3 => ?_)
    simp only [wp_bind', Jvm.W.writeLoc, wp_pure']
    refine ⟨mgO c N V.heap.size i, mgF_base1 V c N _ _ i, (fun q => by cases q), by rw [mgO_sz]; exact hi, ?_, ?_⟩
    · have h1 := (mgF_all V c N (arrV cy M (fun _ => defaultValue ty)) i).1
      show State.fitsSlot ((mgF V c N (arrV cy M (fun _ => defaultValue ty)) i).pushCell (arrV cy M (fun _ => defaultValue ty))) c .none i (.ref (V.heap.size + 1 + i)) = true
      simp [State.fitsSlot, State.slotType?, h1, hk, hkd, mg_rf (t := ty) (Or.inr ⟨_, rfl⟩)]
    · rw [mgO_put]
      exact hy _ _
  · simp only [wp_pure']
    exact hq _ _
/-- the classes of rows and of the array over them -/
theorem mg_over {s : State} {ty : FieldType} (h : gAO (.array ty) s) : ∃ (c cy : ClassId) (k : Class), s.vm.findClass (FieldType.array ty).toString = some cy ∧ s.vm.classes[c]? = some k ∧ k.kind = .array cy (.array ty) ∧ s.vm.findClass ("[" ++ (FieldType.array ty).toString) = some c := by
  unfold gAO Cond.before at h
  simp only [Cond.holds, Cond.value, beq_iff_eq] at h
  cases hc : s.vm.findClass (FieldType.array ty).toString with
  | none => simp [hc] at h
  | some cy =>
    simp only [hc, Option.bind_some, Option.bind_eq_some_iff, Option.map_eq_some_iff] at h
    obtain ⟨c, hi, k, hk, hb⟩ := h
    obtain ⟨hlt, hp, -⟩ := Array.findIdx?_eq_some_iff_getElem.mp hi
    rw [(Array.getElem?_eq_some_iff.mp hk).2] at hp
    cases hkd : k.kind with
    | array co t9 =>
      rw [hkd] at hb hp
      simp at hb hp
      exact ⟨c, cy, k, rfl, hk, by rw [hkd, hp, hb.1], hb.2⟩
    | _ => rw [hkd] at hb; simp at hb
section MG
variable {p : Program} {l : Launch} {e : Env} {R : Room} {s : State} {m : MethodId} {args : Array Value} {below : List Frame} {meth : Method} {c : Code} {T : State} {locs : List Loc} {cells slots : Nat}
theorem mgF_stand (X : Stand p l e R s m args below meth c T locs cells slots) (cA : ClassId) (N : Nat) (r : Cell) : ∀ i : Nat, Stand p l e R s m args below meth c (mgF T cA N r i) locs (cells + 1 + i) (slots + N + i * r.slots.size)
  | 0 => by
    have h := X.pushed (mgO cA N T.heap.size 0)
    rw [mgO_sz] at h
    rw [Nat.zero_mul]
    exact h
  | i + 1 => by
    have h := (((mgF_stand X cA N r i).pushed r).stored (mgF_base1 T cA N r r i) i (.ref (T.heap.size + 1 + i))).dropFresh (fun x hx => by
      rw [List.mem_singleton.mp hx]
      exact X.heapGrown)
    rw [mgO_put] at h
    rw [show slots + N + (i + 1) * r.slots.size = slots + N + i * r.slots.size + r.slots.size by rw [Nat.succ_mul]; omega]
    exact h
/-- multianewarray with two dimensions -/
theorem mg_step (X : Stand p l e R s m args below meth c T locs cells slots) (hexec : p.tables.exec = Jvm.exec) {own : String} {index : Nat} {ty : FieldType} (hown : s.vm.findClass own = some m.cls) (hcl : (Cond.classLink own index ("[" ++ (FieldType.array ty).toString)).before args s = true) (hover : gAO (.array ty) s) (harr : (Cond.arrayClass ty).before args s = true) {cy : ClassId} (hcy : s.vm.findClass (FieldType.array ty).toString = some cy)
    {g : JFrame} (hg : g.method = m) (hd : decode c.code g.pc = .ok (.multianewarray index 2, 4)) {n k : Int32} {N M : Nat} {rest : List Value} (hst : g.stack = .int k :: .int n :: rest) (hn : ¬ n < 0) (hk : ¬ k < 0) (hN : n.toNatClampNeg = N) (hM : k.toNatClampNeg = M) (b1 : N * 4 ≤ 536870912) (b2 : M * componentBytes ty ≤ 536870912) (b3 : M ≤ 536870912) (hdf : fits ty (defaultValue ty) = true) (hce : cells + (1 + N) ≤ R.cells) (hsl : slots + (N + N * M) ≤ R.slots) :
    ∃ (vm1 : Vm) (cA : ClassId), s.vm.findClass ("[" ++ (FieldType.array ty).toString) = some cA ∧ ArrOfT s cA (.array ty) ∧ Stand p l e R s m args below meth c (mgF (T.setVm vm1) cA N (arrV cy M (fun _ => defaultValue ty)) N) locs (cells + 1 + N) (slots + N + N * M) ∧
      ∀ target, Steps p.tables e below ((mgF (T.setVm vm1) cA N (arrV cy M (fun _ => defaultValue ty)) N).setTop { g with pc := g.pc + 4, stack := .ref T.heap.size :: rest }) target → Steps p.tables e below (T.setTop g) target := by
  subst hg
  have hpl : e.platform.magicAccessors = ({} : Platform).magicAccessors := by rw [X.admits.platform]
  obtain ⟨cA, cy1, kA, o1, o2, o3, o4⟩ := mg_over hover
  cases hcy.symm.trans o1
  obtain ⟨cy2, kC, cc, r1, r2, r3⟩ := Cond.arrayClass_spec harr
  have r4 : s.vm.findClass (FieldType.array ty).toString = some cy2 := r1
  cases hcy.symm.trans r4
  obtain ⟨c0, q1, q2⟩ := Cond.classLink_spec hown hcl e.platform hpl
  cases o4.symm.trans q1
  obtain ⟨w1, w2, -⟩ := State.classEntry (e := e) X.warmed q2
  generalize T.vm.noted g.method.cls index (.cls cA) = vm1 at w1 w2
  obtain ⟨kA1, a1, a2⟩ := w2.alike.2.2 _ _ o2
  obtain ⟨kC1, a3, a4⟩ := w2.alike.2.2 _ _ r2
  have a5 : kA1.kind = .array cy (.array ty) := by rw [a2]; exact o3
  have a6 : kC1.kind = .array cc ty := by rw [a4]; exact r3
  have X1 := X.noted w2
  have rsz : (arrV cy M (fun _ => defaultValue ty)).slots.size = M := by simp [arrV]
  have XF := mgF_stand X1 cA N (arrV cy M (fun _ => defaultValue ty)) N
  rw [rsz] at XF
  obtain ⟨u1, u2⟩ := X.roomAbove hce hsl
  have v1 := Launch.admits_arrayLengthLimit X.admits
  have v2 := Launch.admits_maxHeapBytes X.admits
  refine ⟨vm1, cA, o4, fun n9 z9 => ⟨fun q hq => (by cases hq), kA, o2, cy, o3⟩, XF, fun target hrest => ?_⟩
  jvm_step X.here [hexec, hd]
  simp only [multianewarray.sem, wp_bind', Jvm.W.resolveClassAt_links (State.method?_setTop g X.here.top) w1]
  rw [Jvm.W.popN, if_neg (by decide)]
  refine ⟨g, State.topJava?_setTop' (s := T.setVm vm1) g X.here.top, [.int n, .int k], rest, rfl, hst, ?_⟩
  simp only [List.mapM_cons, List.mapM_nil, wp_bind', wp_pure']
  refine mg_make (c := cA) (cy := cy) (c2 := cc) (ty := ty) hN hM a1 a5 a3 a6 hn hk (by rw [v1]; omega) (by rw [v2]; show ¬ N * 4 > 536870912; omega) (by rw [v1]; omega) (by rw [v2]; omega) hdf (by show T.heap.size + 1 + N ≤ _; omega) (by show T.slotsUsed + N + N * M ≤ _; omega) (fun d' acts' => ?_)
  have eS : ((T.setTop g).setVm vm1).setTop { g with stack := rest } = (T.setVm vm1).setTop { g with stack := rest } := State.setTop_setTop (T.setVm vm1) g _
  rw [eS, mgF_top]
  simp only [wp_bind', Jvm.W.mark, Jvm.W.pushRef, State.topJava?_setTop' _ XF.here.top, Option.some.injEq, exists_eq_left', State.setTop_setTop, State.heap_setTop]
  intro acts
  simp [jvm, XF.here.top]
  exact hrest
end MG
