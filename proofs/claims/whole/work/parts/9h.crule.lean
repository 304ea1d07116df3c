/-! CONSTRUCTORS: the rules -/
theorem gX.moved {u U : State} (hW : u.WarmedH U.vm) (h : gX u) : gX U := ⟨fun q hq => (h.1 q hq).warmM hW, h.2.1.moved hW.alike, over_moved hW.alike h.2.2.1, over_moved hW.alike h.2.2.2⟩
theorem gX.same {u U : State} (hv : u.vm = U.vm) (h : gX u) : gX U := by
  have ha : u.vm.Alike U.vm := hv ▸ Vm.Alike.refl u.vm
  exact ⟨fun q hq => (h.1 q hq).same rfl hv, h.2.1.moved ha, over_moved ha h.2.2.1, over_moved ha h.2.2.2⟩
section GVR
variable {K K' : ftM} {pc pc' : Nat} {L L' : List (Option ftV)} {st : List ftV} {n : Nat} {h h' : ftH} {z : gZ} {ce sl n0 : Nat} {R : Nat → ftH → gZ → Prop}
theorem gk_c {v : ftV} {st : List ftV} {n : Nat} (h1 : ft_ok v ∧ gr n v) (h2 : ∀ u ∈ st, ft_ok u ∧ gr n u) : ∀ u ∈ v :: st, ft_ok u ∧ gr n u := fun u hu => by
  rcases List.mem_cons.mp hu with rfl | hu
  · exact h1
  · exact h2 u hu
theorem gk_t {v : ftV} {st : List ftV} {n : Nat} (h : ∀ u ∈ v :: st, ft_ok u ∧ gr n u) : ∀ u ∈ st, ft_ok u ∧ gr n u := fun u hu => h u (List.mem_cons_of_mem _ hu)
theorem gk_h {v : ftV} {st : List ftV} {n : Nat} (h : ∀ u ∈ v :: st, ft_ok u ∧ gr n u) : ft_ok v ∧ gr n v := h v List.mem_cons_self
theorem g_hts {p : Program} {s : State} {m : MethodId} {args : Array Value} {meth : Method} {c : Code} {D : va_G} {cA : Nat → ClassId} (hC : gCx K p s m args meth c D cA) : ∀ w ∈ lw_tbl.filter goodWord, w.before args s = true := fun w hw => hC.2.2.2.2.2.1 w (List.mem_filter.mp hw).1 (List.mem_filter.mp hw).2
theorem gv_aload_n {i : Fin 4} {a : Nat} (hd : decode K.2.1 pc = .ok (.aload_n i, 1)) (hp : pc + 1 = pc') (hi : L[(i : Nat)]? = some (some (.inr (.inr a)))) (k : gV K pc' L (.inr (.inr a) :: st) n h z ce sl n0 R) : gV K pc L st n h z ce sl n0 R := by
  intro p l e s m args below meth c D ad0 ad cA A H locs ls hC ha hP hD hS hA hz hL hs hl
  subst hp
  exact lv_aload_n hC.1 hC.2.1 hd rfl (ft_lget hl hi) (k p l e s m args below meth c D ad0 ad cA A H locs ls hC ha hP hD hS hA hz hL (gk_c (hL _ (List.mem_of_getElem? hi)) hs) hl)
theorem gv_iload_n {i : Fin 4} {x : Int} (hd : decode K.2.1 pc = .ok (.iload_n i, 1)) (hp : pc + 1 = pc') (hi : L[(i : Nat)]? = some (some (.inl x))) (k : gV K pc' L (.inl x :: st) n h z ce sl n0 R) : gV K pc L st n h z ce sl n0 R := by
  intro p l e s m args below meth c D ad0 ad cA A H locs ls hC ha hP hD hS hA hz hL hs hl
  subst hp
  exact lv_iload_n hC.1 hC.2.1 hd rfl (ft_lget hl hi) (k p l e s m args below meth c D ad0 ad cA A H locs ls hC ha hP hD hS hA hz hL (gk_c (hL _ (List.mem_of_getElem? hi)) hs) hl)
theorem gv_iconst {x : Int} (hd : decode K.2.1 pc = .ok (.iconst x, 1)) (hp : pc + 1 = pc') (hn : ft_inB x = true) (k : gV K pc' L (.inl x :: st) n h z ce sl n0 R) : gV K pc L st n h z ce sl n0 R := by
  intro p l e s m args below meth c D ad0 ad cA A H locs ls hC ha hP hD hS hA hz hL hs hl
  subst hp
  exact lv_iconst hC.1 hC.2.1 hd rfl (k p l e s m args below meth c D ad0 ad cA A H locs ls hC ha hP hD hS hA hz hL (gk_c ⟨ft_inB_ok hn, trivial⟩ hs) hl)
theorem gv_bipush {x : Int} (hd : decode K.2.1 pc = .ok (.bipush x, 2)) (hp : pc + 2 = pc') (hn : ft_b8 x = true) (k : gV K pc' L (.inl x :: st) n h z ce sl n0 R) : gV K pc L st n h z ce sl n0 R := by
  intro p l e s m args below meth c D ad0 ad cA A H locs ls hC ha hP hD hS hA hz hL hs hl
  subst hp
  unfold ft_b8 at hn
  rw [Bool.and_eq_true, decide_eq_true_eq, decide_eq_true_eq] at hn
  exact lv_bipush hC.1 hC.2.1 hd (ft_bip hn.1 hn.2) (k p l e s m args below meth c D ad0 ad cA A H locs ls hC ha hP hD hS hA hz hL (gk_c ⟨show ft_in x from ⟨by omega, by omega⟩, trivial⟩ hs) hl)
theorem gv_sipush {x : Int} (hd : decode K.2.1 pc = .ok (.sipush x, 3)) (hp : pc + 3 = pc') (hn : ft_b16 x = true) (k : gV K pc' L (.inl x :: st) n h z ce sl n0 R) : gV K pc L st n h z ce sl n0 R := by
  intro p l e s m args below meth c D ad0 ad cA A H locs ls hC ha hP hD hS hA hz hL hs hl
  subst hp
  unfold ft_b16 at hn
  rw [Bool.and_eq_true, decide_eq_true_eq, decide_eq_true_eq] at hn
  exact lv_sipush hC.1 hC.2.1 hd (ft_sip hn.1 hn.2) (k p l e s m args below meth c D ad0 ad cA A H locs ls hC ha hP hD hS hA hz hL (gk_c ⟨show ft_in x from ⟨by omega, by omega⟩, trivial⟩ hs) hl)
theorem gv_dup {v : ftV} (hd : decode K.2.1 pc = .ok (.dup, 1)) (hp : pc + 1 = pc') (hv : ft_isL (some v) = false) (k : gV K pc' L (v :: v :: st) n h z ce sl n0 R) : gV K pc L (v :: st) n h z ce sl n0 R := by
  intro p l e s m args below meth c D ad0 ad cA A H locs ls hC ha hP hD hS hA hz hL hs hl
  subst hp
  exact lv_dup hC.1 hC.2.1 hd (by rcases v with x | x | x <;> first | rfl | cases hv) (k p l e s m args below meth c D ad0 ad cA A H locs ls hC ha hP hD hS hA hz hL (gk_c (gk_h hs) hs) hl)
theorem gv_iadd {x y w : Int} (hd : decode K.2.1 pc = .ok (.iadd, 1)) (hp : pc + 1 = pc') (hw : ft_add x y = w) (k : gV K pc' L (.inl w :: st) n h z ce sl n0 R) : gV K pc L (.inl y :: .inl x :: st) n h z ce sl n0 R := by
  intro p l e s m args below meth c D ad0 ad cA A H locs ls hC ha hP hD hS hA hz hL hs hl
  subst hp
  subst hw
  have t := k p l e s m args below meth c D ad0 ad cA A H locs ls hC ha hP hD hS hA hz hL (gk_c ⟨show ft_in (ft_add x y) from ft_in_of _, trivial⟩ (gk_t (gk_t hs))) hl
  simp only [List.map_cons, ft_val, ft_add, ft_bk] at t
  exact lv_iadd hC.1 hC.2.1 hd t
theorem gv_imul {x y w : Int} (hd : decode K.2.1 pc = .ok (.imul, 1)) (hp : pc + 1 = pc') (hw : ft_mul x y = w) (k : gV K pc' L (.inl w :: st) n h z ce sl n0 R) : gV K pc L (.inl y :: .inl x :: st) n h z ce sl n0 R := by
  intro p l e s m args below meth c D ad0 ad cA A H locs ls hC ha hP hD hS hA hz hL hs hl
  subst hp
  subst hw
  have t := k p l e s m args below meth c D ad0 ad cA A H locs ls hC ha hP hD hS hA hz hL (gk_c ⟨show ft_in (ft_mul x y) from ft_in_of _, trivial⟩ (gk_t (gk_t hs))) hl
  simp only [List.map_cons, ft_val, ft_mul, ft_bk] at t
  exact lv_imul hC.1 hC.2.1 hd t
theorem gv_return (hd : decode K.2.1 pc = .ok (.return_, 1)) (hc : ce = K.2.2.2.2.cells) (hs0 : sl = K.2.2.2.2.slots) (k : R n h z) : gV K pc L [] n h z ce sl n0 R := by
  intro p l e s m args below meth c D ad0 ad cA A H locs ls hC ha hP hD hS hA hz hL hs hl
  have hlocks := hC.2.2.2.2.2.2.1
  subst hc
  subst hs0
  exact W.vret hC.1 hC.2.1 hC.2.2.1 (fun t ht hW => ⟨⟨(ad, n, h, z), rfl, ⟨ha.1, k⟩, by rw [ht]; exact hP, va_K.moved hW.alike hC.2.2.2.2.2.2.2.1, hD, hz⟩, hS.F ht⟩) hS.2.2 hd
theorem gv_objInit {a idx : Nat} (hd : decode K.2.1 pc = .ok (.invokespecial idx, 3)) (hp : pc + 3 = pc') (hl0 : ft_g (.methodLink K.1.cls idx Lib.objectInit)) (hi : ft_g (.instanceMethod Lib.objectInit)) (hc0 : ft_g (.code Lib.objectInit ⟨#[0xb1]⟩ 1 none)) (hf : 1 ≤ K.2.2.2.2.frames) (hlo : 20 ≤ K.2.2.2.2.locals ∨ st = [] ∧ 12 ≤ K.2.2.2.2.locals) (hcs : ft_cs st ≤ 8) (k : gV K pc' L st n h z ce sl n0 R) : gV K pc L (.inr (.inr a) :: st) n h z ce sl n0 R := by
  intro p l e s m args below meth c D ad0 ad cA A H locs ls hC ha hP hD hS hA hz hL hs hl
  subst hp
  refine W.objInit hC.1 hC.2.1 hC.2.2.2.2.1 (g_hts hC _ (ft_gf hl0)) (g_hts hC _ (ft_gf hi)) (g_hts hC _ (ft_gf hc0)) rfl (hl.1.trans hC.2.2.2.1.symm) rfl hd hf ?_ (k p l e s m args below meth c D ad0 ad cA A H locs ls hC ha hP hD hS hA hz hL (gk_t hs) hl)
  have h8 := ft_cs_ok (ad := ad) hcs
  show 2 * 0 + ((st.map (ft_val ad)).map fun v => v.category).sum + 12 ≤ _
  rcases hlo with q | ⟨q, q2⟩
  · omega
  · rw [q]
    simpa using q2
theorem gad_step {n0 n : Nat} {ad0 ad : Nat → Nat} {q : Nat} (ha : (∀ k, k < n0 → ad k = ad0 k) ∧ n0 ≤ n) : ((∀ k, k < n → (fun k => if k = n then q else ad k) k = ad k) ∧ (fun k => if k = n then q else ad k) n = q) ∧ (∀ k, k < n0 → (fun k => if k = n then q else ad k) k = ad0 k) ∧ n0 ≤ n + 1 := by
  refine ⟨⟨fun k hk => if_neg (by omega), if_pos rfl⟩, fun k hk => ?_, by omega⟩
  show (if k = n then q else ad k) = ad0 k
  rw [if_neg (by omega)]
  exact ha.1 k hk
theorem gzk_grow (hz : gzk h z n) : gzk h z (n + 1) := ⟨hz.1, fun k hk => hz.2.1 k (by omega), fun q hq => ⟨by have := (hz.2.2 q hq).1; omega, by have := (hz.2.2 q hq).2; omega⟩⟩
/-- the world grows by a cell whose content is as it must be -/
theorem gv_grow {v0 : List Value} {sh : Nat ⊕ Nat × Nat} {p : Program} {l : Launch} {e : Env} {s : State} {m : MethodId} {args : Array Value} {below : List Frame} {meth : Method} {c : Code} {D : va_G} {ad0 ad : Nat → Nat} {cA : Nat → ClassId} {A : Nat → Prop} {locs : List Loc} {ls : Array Slot} {q : Nat} {H1 : Heap} {en : va_E} (hsh : ft_sh n = some sh) (k : gV K pc' L (.inr (.inr n) :: st) (n + 1) h z (ce + 1) sl n0 R) (hC : gCx K p s m args meth c D cA) (ha : (∀ k, k < n0 → ad k = ad0 k) ∧ n0 ≤ n) (hz : gzk h z n) (hA : ∀ q, s.heap.size ≤ q → A q) (hL : ∀ v, some v ∈ L → ft_ok v ∧ gr n v) (hs : ∀ v ∈ st, ft_ok v ∧ gr n v) (hl : lv_has ls K.2.2.1 (ft_lv ad L)) (he : en = gcl (fun k => if k = n then q else ad k) cA h z n sh) (hP1 : va_P D ft_cls (gws ad cA h z n ++ [(q, en)]) H1) (hD1 : va_D A (gws ad cA h z n ++ [(q, en)])) (hS1 : va_S A s.heap H1 locs) :
    W p l e K.2.2.2.2 s m args below meth c H1 locs (ce + 1) sl (MQ below (gQ n0 ad0 R D cA A) args s K.2.2.2.2.cells K.2.2.2.2.slots A) (F0 m pc' ls (.ref q :: st.map (ft_val ad))) := by
  obtain ⟨⟨g1, g2⟩, g3⟩ := gad_step (q := q) ha
  have e1 : gws ad cA h z n ++ [(q, en)] = gws (fun k => if k = n then q else ad k) cA h z (n + 1) := by
    rw [gws_push hsh (fun x hx => (hz.2.2 x hx).2) g1, he, if_pos rfl]
  rw [e1] at hP1 hD1
  have t := k p l e s m args below meth c D ad0 (fun k => if k = n then q else ad k) cA A H1 locs ls hC g3 hP1 hD1 hS1 hA (gzk_grow hz) (fun v hv => ⟨(hL v hv).1, gr_mono (by omega) (hL v hv).2⟩) (gk_c ⟨trivial, Nat.lt_succ_self n⟩ (fun v hv => ⟨(hs v hv).1, gr_mono (by omega) (hs v hv).2⟩)) (gr_lv g1 (fun v hv => (hL v hv).2) hl)
  rw [List.map_cons, gr_map g1 (fun v hv => (hs v hv).2)] at t
  have e2 : ft_val (fun k => if k = n then q else ad k) (.inr (.inr n)) = .ref q := by
    show Value.ref ((fun k => if k = n then q else ad k) n) = _
    rw [g2]
  rw [e2] at t
  exact t
theorem gfl_new {ad : Nat → Nat} {k ci : Nat} (h0 : ∀ j, h k j = 0) (hz : ∀ q ∈ z, q.1 ≠ k) : gfl ad h z k ci = (ft_fk ci).map fun t => if t = 0 then .int 0 else if t = 1 then .long 0 else .null := by
  unfold gfl
  apply List.ext_getElem?
  intro i
  rw [List.getElem?_mapIdx, List.getElem?_map]
  cases (ft_fk ci)[i]? with
  | none => rfl
  | some t =>
    simp only [Option.map_some, h0]
    rw [if_neg (fun q => hz _ q rfl)]
    rfl
theorem gv_new {idx ci N : Nat} {q : vw_C} {ty0 : Nat → FieldType} (hd : decode K.2.1 pc = .ok (.new idx, 3)) (hp : pc + 3 = pc') (hsh : ft_sh n = some (.inl ci)) (hck : ft_ck ci q ty0) (hcl : ft_g (.classLink K.1.cls idx q.1)) (hinst : ft_g (.instantiable q.1 q.2.2)) (hini : ft_g (.initialized q.1)) (hN : q.2.2 = N) (hdef : ∀ j, j < N → defaultValue (ty0 j) = vp_V ((ft_fk ci).map fun t => if t = 0 then .int 0 else if t = 1 then .long 0 else .null) j) (hce : ce + 1 ≤ K.2.2.2.2.cells) (hsl : sl + N ≤ K.2.2.2.2.slots) (k : gV K pc' L (.inr (.inr n) :: st) (n + 1) h z (ce + 1) (sl + N) n0 R) : gV K pc L st n h z ce sl n0 R := by
  intro p l e s m args below meth c D ad0 ad cA A H locs ls hC ha hP hD hS hA hz hL hs hl
  subst hp
  obtain ⟨hc, hws, hty, hnm, hlen⟩ := hck
  subst hN
  refine va_new (ci := ci) (fs := (ft_fk ci).map fun t => if t = 0 then .int 0 else if t = 1 then .long 0 else .null) hC.1 hC.2.1 (g_hts hC) (fun w hw => ft_gf (hws w hw)) ty0 hty hC.2.2.2.2.1 (g_hts hC _ (ft_gf hcl)) (g_hts hC _ (ft_gf hinst)) (g_hts hC _ (ft_gf hini)) hC.2.2.2.2.2.2.2.1 hP hD hS hA hc hdef hce hsl hd (fun q5 H1 hP1 hD1 hS1 => ?_)
  refine gv_grow (v0 := []) hsh k hC ha hz hA hL hs hl ?_ hP1 hD1 hS1
  show Sum.inr (ci, _) = Sum.inr (ci, gfl _ h z n ci)
  rw [gfl_new (fun j => hz.2.1 n (Nat.le_refl n) j) (fun x hx => by have := (hz.2.2 x hx).1; omega)]
end GVR
