/-! THE RULES of the heap and of calls -/
section FVH
variable {K : ftM} {pc pc' : Nat} {L L' : List (Option ftV)} {st : List ftV} {h h' : ftH} {R : Option ftV → ftH → Prop}
variable {D : va_G} {ad : Nat → Nat} {cA : Nat → ClassId} {H H0 : Heap} {locs : List Loc}
theorem ft_cell_eq {a : Nat} {sh : Nat ⊕ Nat × Nat} (he : h' a = h a) : ft_cell ad cA h' a sh = ft_cell ad cA h a sh := by
  rcases sh with ci | q
  · simp only [ft_cell, ft_flds, he]
  · simp only [ft_cell, ft_arr, he]
theorem ft_ws_upd {k : Nat} {sh : Nat ⊕ Nat × Nat} (hk : ft_sh k = some sh) (hne : ∀ a, a ≠ k → h' a = h a) : (ft_ws ad cA h).set k (ad k, ft_cell ad cA h' k sh) = ft_ws ad cA h' := by
  apply List.ext_getElem?
  intro i
  by_cases e : i = k
  · subst e
    rw [List.getElem?_set_self', ft_ws_get hk, ft_ws_get hk]
    rfl
  · rw [List.getElem?_set_ne (fun q => e q.symm)]
    unfold ft_ws
    rw [List.getElem?_mapIdx, List.getElem?_mapIdx]
    cases ft_shapes[i]? with
    | none => rfl
    | some sh => rw [Option.map_some, Option.map_some, ft_cell_eq (hne i e)]
theorem ft_hs_ne {k j : Nat} {z : Int} : ∀ a, a ≠ k → ft_hs h k j z a = h a := fun a ha => by
  funext b
  unfold ft_hs
  rw [if_neg (fun q => ha q.1)]
theorem ft_hs_same {k j : Nat} {z : Int} : ft_hs h k j z k j = z := if_pos ⟨rfl, rfl⟩
theorem ft_hs_j {k j b : Nat} {z : Int} (hb : b ≠ j) : ft_hs h k j z k b = h k b := if_neg (fun q => hb q.2)
theorem ft_flds_get {k ci j t : Nat} (ht : (ft_fk ci)[j]? = some t) : (ft_flds ad h k ci)[j]? = some (if t = 0 then .int (Int32.ofInt (h k j)) else if t = 1 then .long (Int64.ofInt (h k j)) else .ref (ad (ft_lay k j))) := by
  unfold ft_flds
  rw [List.getElem?_mapIdx, ht]
  rfl
theorem ft_flds_set {k ci j t : Nat} {z : Int} {v : Value} (ht : (ft_fk ci)[j]? = some t) (hv : v = if t = 0 then .int (Int32.ofInt z) else if t = 1 then .long (Int64.ofInt z) else .ref (ad (ft_lay k j))) : (ft_flds ad h k ci).set j v = ft_flds ad (ft_hs h k j z) k ci := by
  apply List.ext_getElem?
  intro i
  by_cases e : i = j
  · subst e
    rw [List.getElem?_set_self', ft_flds_get ht, ft_flds_get ht, ft_hs_same, hv]
    rfl
  · rw [List.getElem?_set_ne (fun q => e q.symm)]
    unfold ft_flds
    rw [List.getElem?_mapIdx, List.getElem?_mapIdx]
    cases (ft_fk ci)[i]? with
    | none => rfl
    | some t => rw [Option.map_some, Option.map_some, ft_hs_j e]
/-- a class of the list by its number: what the rows of fields need -/
def ft_ck (ci : Nat) (q : vw_C) (ty0 : Nat → FieldType) : Prop := ft_cls[ci]? = some q ∧ (∀ w ∈ u_ws q.1 q.2.1 q.2.2, ft_g w) ∧ (∀ k, k < q.2.2 → parseFieldDescriptor (q.2.1 k).2.2.1 = some (ty0 k)) ∧ (∀ a, a < q.2.2 → ∀ b, b < q.2.2 → a ≠ b → (q.2.1 a).2.1 ≠ (q.2.1 b).2.1) ∧ (ft_fk ci).length = q.2.2
/-- a link of a field: class own, entry idx: field k of class number ci -/
def ft_fl (own : String) (idx ci k : Nat) (q : vw_C) (ty0 : Nat → FieldType) : Prop := ft_ck ci q ty0 ∧ k < q.2.2 ∧ (q.2.1 k).1 = q.1 ∧ ft_g (.fieldLink own idx q.1 (q.2.1 k).2.1 (q.2.1 k).2.2.1)
theorem ft_hts {p : Program} {s : State} {m : MethodId} {args : Array Value} {meth : Method} {c : Code} (hC : ft_Cx K p s m args meth c D ad cA) : ∀ w ∈ lw_tbl.filter goodWord, w.before args s = true := fun w hw => hC.2.2.2.2.2.1 w (List.mem_filter.mp hw).1 (List.mem_filter.mp hw).2
theorem ft_gf {w : Cond} (hg : ft_g w) : w ∈ lw_tbl.filter goodWord := List.mem_filter.mpr hg
theorem ft_get {idx ci k a t : Nat} {q : vw_C} {ty0 : Nat → FieldType} {v : ftV} (hd : decode K.2.1 pc = .ok (.getfield idx, 3)) (hp : pc + 3 = pc') (hf : ft_fl K.1.cls idx ci k q ty0) (ha : ft_sh a = some (.inl ci)) (ht : (ft_fk ci)[k]? = some t)
    (hv : ∀ ad : Nat → Nat, ft_val ad v = if t = 0 then .int (Int32.ofInt (h a k)) else if t = 1 then .long (Int64.ofInt (h a k)) else .ref (ad (ft_lay a k))) (hok : ft_wf h → ft_ok v) (kk : ft_V K pc' L (v :: st) h R) : ft_V K pc L (.inr (.inr a) :: st) h R := by
  intro p l e s m args below meth c D ad cA H locs ls hC hR hL hS hl
  subst hp
  obtain ⟨⟨hcl, hws, -, -, -⟩, hk, hdc, hg⟩ := hf
  exact va_get hC.1 hC.2.1 (ft_hts hC) (fun w hw => ft_gf (hws w hw)) hC.2.2.2.2.1 hC.2.2.2.2.2.2.2.1 hR.1 a (ft_ws_get ha) hcl k hk (ft_hts hC _ (ft_gf hg)) (fun x hx => by rw [hdc] at hx; exact hx) (by rw [ft_flds_get ht, hv ad]) hd (kk p l e s m args below meth c D ad cA H locs ls hC hR hL (ft_okc (hok hR.2.2.2) (ft_okt hS)) hl)
theorem ft_lgO {a ci k t : Nat} (ha : ft_sh a = some (.inl ci)) (ht : (ft_fk ci)[k]? = some t) : ft_lg a k = (t == 1) := by
  unfold ft_lg
  rw [ha]
  simp [List.getD_eq_getElem?_getD, ht]
theorem fv_getI {idx ci k a : Nat} {q : vw_C} {ty0 : Nat → FieldType} (hd : decode K.2.1 pc = .ok (.getfield idx, 3)) (hp : pc + 3 = pc') (hf : ft_fl K.1.cls idx ci k q ty0) (ha : ft_sh a = some (.inl ci)) (ht : (ft_fk ci)[k]? = some 0) (kk : ft_V K pc' L (.inl (h a k) :: st) h R) : ft_V K pc L (.inr (.inr a) :: st) h R :=
  ft_get hd hp hf ha ht (fun _ => rfl) (fun hw => by have := hw a k; rw [ft_lgO ha ht] at this; exact this) kk
theorem fv_getL {idx ci k a : Nat} {q : vw_C} {ty0 : Nat → FieldType} (hd : decode K.2.1 pc = .ok (.getfield idx, 3)) (hp : pc + 3 = pc') (hf : ft_fl K.1.cls idx ci k q ty0) (ha : ft_sh a = some (.inl ci)) (ht : (ft_fk ci)[k]? = some 1) (kk : ft_V K pc' L (.inr (.inl (h a k)) :: st) h R) : ft_V K pc L (.inr (.inr a) :: st) h R :=
  ft_get hd hp hf ha ht (fun _ => rfl) (fun hw => by have := hw a k; rw [ft_lgO ha ht] at this; exact this) kk
theorem fv_getR {idx ci k a b : Nat} {q : vw_C} {ty0 : Nat → FieldType} (hd : decode K.2.1 pc = .ok (.getfield idx, 3)) (hp : pc + 3 = pc') (hf : ft_fl K.1.cls idx ci k q ty0) (ha : ft_sh a = some (.inl ci)) (ht : (ft_fk ci)[k]? = some 2) (hb : ft_lay a k = b) (kk : ft_V K pc' L (.inr (.inr b) :: st) h R) : ft_V K pc L (.inr (.inr a) :: st) h R := by
  subst hb
  exact ft_get (v := .inr (.inr (ft_lay a k))) hd hp hf ha ht (fun _ => rfl) (fun _ => trivial) kk
theorem ft_put {idx ci k a t : Nat} {q : vw_C} {ty0 : Nat → FieldType} {v : ftV} {z : Int} (hd : decode K.2.1 pc = .ok (.putfield idx, 3)) (hp : pc + 3 = pc') (hf : ft_fl K.1.cls idx ci k q ty0) (hfin : (q.2.1 k).2.2.2 = false) (ha : ft_sh a = some (.inl ci)) (ht : (ft_fk ci)[k]? = some t)
    (hv : ∀ ad : Nat → Nat, ft_val ad v = if t = 0 then .int (Int32.ofInt z) else if t = 1 then .long (Int64.ofInt z) else .ref (ad (ft_lay a k))) (hfit : ∀ ad : Nat → Nat, narrow (ty0 k) (ft_val ad v) = ft_val ad v ∧ fits (ty0 k) (ft_val ad v) = true) (hok : ft_ok v → if ft_lg a k = true then ft_inL z else ft_in z) (kk : ft_V K pc' L st (ft_hs h a k z) R) : ft_V K pc L (v :: .inr (.inr a) :: st) h R := by
  intro p l e s m args below meth c D ad cA H locs ls hC hR hL hS hl
  subst hp
  obtain ⟨⟨hcl, hws, hty, hnm, hlen⟩, hk, hdc, hg⟩ := hf
  refine va_put hC.1 hC.2.1 (ft_hts hC) (fun w hw => ft_gf (hws w hw)) ty0 hty hnm hC.2.2.2.2.1 hC.2.2.2.2.2.2.2.1 hR.1 hR.2.1 hR.2.2.1 a (ft_ws_get ha) hcl k hk (ft_hts hC _ (ft_gf hg)) (fun x hx => by rw [hdc] at hx; exact hx) hfin (hty k hk) (hfit ad).1 (hfit ad).2 (by unfold ft_flds; rw [List.length_mapIdx, hlen]; exact hk) hd (fun H1 locs1 hP1 hD1 hS1 => ?_)
  have hes : (ft_ws ad cA h).set a (ad a, .inr (ci, (ft_flds ad h a ci).set k (ft_val ad v))) = ft_ws ad cA (ft_hs h a k z) := by
    rw [ft_flds_set ht (hv ad)]
    exact ft_ws_upd (ad := ad) (cA := cA) (h := h) (h' := ft_hs h a k z) (k := a) (sh := .inl ci) ha ft_hs_ne
  rw [hes] at hP1 hD1
  exact kk p l e s m args below meth c D ad cA H1 locs1 ls hC ⟨hP1, hD1, hS1, ft_wf_hs hR.2.2.2 (hok (ft_okh hS))⟩ hL (ft_okt (ft_okt hS)) hl
theorem fv_putI {idx ci k a : Nat} {q : vw_C} {ty0 : Nat → FieldType} {z : Int} (hd : decode K.2.1 pc = .ok (.putfield idx, 3)) (hp : pc + 3 = pc') (hf : ft_fl K.1.cls idx ci k q ty0) (hfin : (q.2.1 k).2.2.2 = false) (hty : ty0 k = .int) (ha : ft_sh a = some (.inl ci)) (ht : (ft_fk ci)[k]? = some 0) (kk : ft_V K pc' L st (ft_hs h a k z) R) : ft_V K pc L (.inl z :: .inr (.inr a) :: st) h R :=
  ft_put hd hp hf hfin ha ht (fun _ => rfl) (fun _ => by rw [hty]; exact ⟨rfl, rfl⟩) (fun hz => by rw [ft_lgO ha ht]; exact hz) kk
theorem ft_nz {z : Int} (hz : z = 0 ∨ z = 1) : narrow .boolean (.int (Int32.ofInt z)) = .int (Int32.ofInt z) ∧ fits .boolean (.int (Int32.ofInt z)) = true := by
  rcases hz with rfl | rfl <;> exact ⟨by decide +kernel, by decide +kernel⟩
theorem fv_putZ {idx ci k a : Nat} {q : vw_C} {ty0 : Nat → FieldType} {z : Int} (hd : decode K.2.1 pc = .ok (.putfield idx, 3)) (hp : pc + 3 = pc') (hf : ft_fl K.1.cls idx ci k q ty0) (hfin : (q.2.1 k).2.2.2 = false) (hty : ty0 k = .boolean) (ha : ft_sh a = some (.inl ci)) (ht : (ft_fk ci)[k]? = some 0) (hz : z = 0 ∨ z = 1) (kk : ft_V K pc' L st (ft_hs h a k z) R) : ft_V K pc L (.inl z :: .inr (.inr a) :: st) h R :=
  ft_put hd hp hf hfin ha ht (fun _ => rfl) (fun _ => by rw [hty]; exact ft_nz hz) (fun hz => by rw [ft_lgO ha ht]; exact hz) kk
theorem fv_putL {idx ci k a : Nat} {q : vw_C} {ty0 : Nat → FieldType} {z : Int} (hd : decode K.2.1 pc = .ok (.putfield idx, 3)) (hp : pc + 3 = pc') (hf : ft_fl K.1.cls idx ci k q ty0) (hfin : (q.2.1 k).2.2.2 = false) (hty : ty0 k = .long) (ha : ft_sh a = some (.inl ci)) (ht : (ft_fk ci)[k]? = some 1) (kk : ft_V K pc' L st (ft_hs h a k z) R) : ft_V K pc L (.inr (.inl z) :: .inr (.inr a) :: st) h R :=
  ft_put hd hp hf hfin ha ht (fun _ => rfl) (fun _ => by rw [hty]; exact ⟨rfl, rfl⟩) (fun hz => by rw [ft_lgO ha ht]; exact hz) kk
/-! arrays -/
theorem ft_lnA {a t n : Nat} (ha : ft_sh a = some (.inr (t, n))) : ft_ln a = n := by unfold ft_ln; rw [ha]
theorem ft_lgA {a t n j : Nat} (ha : ft_sh a = some (.inr (t, n))) : ft_lg a j = (t == 1) := by unfold ft_lg; rw [ha]
theorem ft_vpin {i : Int} {n : Nat} (hi : ft_in i) (h1 : 0 ≤ i) (h2 : i < (n : Int)) : vp_in (Int32.ofInt i) n := by
  rw [vp_in_iff, ft_toI hi]
  exact ⟨h1, h2⟩
theorem ft_cl {i : Int} (hi : ft_in i) : (Int32.ofInt i).toNatClampNeg = i.toNat := by
  show (Int32.ofInt i).toInt.toNat = i.toNat
  rw [ft_toI hi]
theorem fv_iald {a n : Nat} {i : Int} (hd : decode K.2.1 pc = .ok (.iaload, 1)) (hp : pc + 1 = pc') (ha : ft_sh a = some (.inr (0, n))) (hi : 0 ≤ i ∧ i < (n : Int)) (kk : ft_V K pc' L (.inl (h a i.toNat) :: st) h R) : ft_V K pc L (.inl i :: .inr (.inr a) :: st) h R := by
  intro p l e s m args below meth c D ad cA H locs ls hC hR hL hS hl
  subst hp
  have hin := ft_okh hS
  have t := kk p l e s m args below meth c D ad cA H locs ls hC hR hL (ft_okc (show ft_ok (.inl (h a i.toNat)) by have := hR.2.2.2 a i.toNat; rw [ft_lgA ha] at this; exact this) (ft_okt (ft_okt hS))) hl
  refine va_iald (f := fun j => Int32.ofInt (h a j)) hC.1 hC.2.1 hC.2.2.2.2.2.2.2.1 hR.1 a 0 (ft_ws_get ha) rfl (ft_vpin hin hi.1 hi.2) hd ?_
  rw [ft_cl hin]
  exact t
theorem fv_bald {a n : Nat} {i : Int} (hd : decode K.2.1 pc = .ok (.baload, 1)) (hp : pc + 1 = pc') (ha : ft_sh a = some (.inr (2, n))) (hi : 0 ≤ i ∧ i < (n : Int)) (kk : ft_V K pc' L (.inl (h a i.toNat) :: st) h R) : ft_V K pc L (.inl i :: .inr (.inr a) :: st) h R := by
  intro p l e s m args below meth c D ad cA H locs ls hC hR hL hS hl
  subst hp
  have hin := ft_okh hS
  have t := kk p l e s m args below meth c D ad cA H locs ls hC hR hL (ft_okc (show ft_ok (.inl (h a i.toNat)) by have := hR.2.2.2 a i.toNat; rw [ft_lgA ha] at this; exact this) (ft_okt (ft_okt hS))) hl
  refine va_bald (f := fun j => Int32.ofInt (h a j)) hC.1 hC.2.1 hC.2.2.2.2.2.2.2.1 hR.1 a 2 (ft_ws_get ha) rfl (ft_vpin hin hi.1 hi.2) hd ?_
  rw [ft_cl hin]
  exact t
theorem fv_zald {a n : Nat} {i : Int} (hd : decode K.2.1 pc = .ok (.baload, 1)) (hp : pc + 1 = pc') (ha : ft_sh a = some (.inr (3, n))) (hi : 0 ≤ i ∧ i < (n : Int)) (kk : ft_V K pc' L (.inl (h a i.toNat) :: st) h R) : ft_V K pc L (.inl i :: .inr (.inr a) :: st) h R := by
  intro p l e s m args below meth c D ad cA H locs ls hC hR hL hS hl
  subst hp
  have hin := ft_okh hS
  have t := kk p l e s m args below meth c D ad cA H locs ls hC hR hL (ft_okc (show ft_ok (.inl (h a i.toNat)) by have := hR.2.2.2 a i.toNat; rw [ft_lgA ha] at this; exact this) (ft_okt (ft_okt hS))) hl
  refine va_zald (f := fun j => Int32.ofInt (h a j)) hC.1 hC.2.1 hC.2.2.2.2.2.2.2.1 hR.1 a 3 (ft_ws_get ha) rfl (ft_vpin hin hi.1 hi.2) hd ?_
  rw [ft_cl hin]
  exact t
theorem fv_lald {a n : Nat} {i : Int} (hd : decode K.2.1 pc = .ok (.laload, 1)) (hp : pc + 1 = pc') (ha : ft_sh a = some (.inr (1, n))) (hi : 0 ≤ i ∧ i < (n : Int)) (kk : ft_V K pc' L (.inr (.inl (h a i.toNat)) :: st) h R) : ft_V K pc L (.inl i :: .inr (.inr a) :: st) h R := by
  intro p l e s m args below meth c D ad cA H locs ls hC hR hL hS hl
  subst hp
  have hin := ft_okh hS
  have t := kk p l e s m args below meth c D ad cA H locs ls hC hR hL (ft_okc (show ft_ok (.inr (.inl (h a i.toNat))) by have := hR.2.2.2 a i.toNat; rw [ft_lgA ha] at this; exact this) (ft_okt (ft_okt hS))) hl
  refine va_lald (f := fun j => Int64.ofInt (h a j)) hC.1 hC.2.1 hC.2.2.2.2.2.2.2.1 hR.1 a 1 (ft_ws_get ha) rfl (ft_vpin hin hi.1 hi.2) hd ?_
  rw [ft_cl hin]
  exact t
theorem fv_aald {a n t b : Nat} {i : Int} (hd : decode K.2.1 pc = .ok (.aaload, 1)) (hp : pc + 1 = pc') (ha : ft_sh a = some (.inr (t, n))) (ht : t = 4 ∨ t = 5 ∨ t = 6) (hi : 0 ≤ i ∧ i < (n : Int)) (hb : ft_lay a i.toNat = b) (kk : ft_V K pc' L (.inr (.inr b) :: st) h R) : ft_V K pc L (.inl i :: .inr (.inr a) :: st) h R := by
  intro p l e s m args below meth c D ad cA H locs ls hC hR hL hS hl
  subst hp
  subst hb
  have hin := ft_okh hS
  have k := kk p l e s m args below meth c D ad cA H locs ls hC hR hL (ft_okc (show ft_ok (.inr (.inr (ft_lay a i.toNat))) from trivial) (ft_okt (ft_okt hS))) hl
  have hlt : (Int32.ofInt i).toNatClampNeg < n := by rw [ft_cl hin]; omega
  have hP := hR.1 a _ (ft_ws_get ha)
  have he : ft_arr ad h a t = .inr (.inr (.inr (.inr fun j => some (ad (ft_lay a j))))) := by rcases ht with rfl | rfl | rfl <;> rfl
  have hP' : H[ad a]? = some (arrV (cA t) n fun j => va_rf (some (ad (ft_lay a j)))) := by
    have h2 : H[ad a]? = some (vp_cell (cA t) (n, ft_arr ad h a t)) := hP
    rw [he] at h2
    exact h2
  obtain ⟨ty, hty, hr⟩ : ∃ ty : FieldType, (ft_tys cA)[t]? = some (cA t, ty) ∧ ty.isReference = true := by rcases ht with rfl | rfl | rfl <;> exact ⟨_, rfl, rfl⟩
  refine W.aald (v := .ref (ad (ft_lay a i.toNat))) (ty := ty) hC.1 hC.2.1 hP' ((hC.2.2.2.2.2.2.2.1.2 t _ hty).1 n _) hr (fun q => by cases q) (by rw [arrV_size]; exact ft_vpin hin hi.1 hi.2) (by rw [arrV_read _ _ hlt, ft_cl hin]; rfl) rfl rfl hd k
theorem ft_updI {a j : Nat} {z : Int} {x : Int32} (hx : x = Int32.ofInt z) : upd (fun j => Int32.ofInt (h a j)) j x = fun b => Int32.ofInt (ft_hs h a j z a b) := by
  funext b
  unfold upd ft_hs
  by_cases e : b = j
  · simp [e, hx]
  · simp [e]
theorem ft_updL {a j : Nat} {z : Int} {x : Int64} (hx : x = Int64.ofInt z) : vp_updL (fun j => Int64.ofInt (h a j)) j x = fun b => Int64.ofInt (ft_hs h a j z a b) := by
  funext b
  unfold vp_updL ft_hs
  by_cases e : b = j
  · simp [e, hx]
  · simp [e]
theorem fv_iast {a n : Nat} {i z : Int} (hd : decode K.2.1 pc = .ok (.iastore, 1)) (hp : pc + 1 = pc') (ha : ft_sh a = some (.inr (0, n))) (hi : 0 ≤ i ∧ i < (n : Int)) (kk : ft_V K pc' L st (ft_hs h a i.toNat z) R) : ft_V K pc L (.inl z :: .inl i :: .inr (.inr a) :: st) h R := by
  intro p l e s m args below meth c D ad cA H locs ls hC hR hL hS hl
  subst hp
  have hin := ft_okh (ft_okt hS)
  refine va_iast (f := fun j => Int32.ofInt (h a j)) hC.1 hC.2.1 hC.2.2.2.2.2.2.2.1 hR.1 hR.2.1 hR.2.2.1 a 0 (ft_ws_get ha) rfl (ft_vpin hin hi.1 hi.2) hd (fun H1 locs1 hP1 hD1 hS1 => ?_)
  rw [ft_cl hin, ft_updI rfl] at hP1 hD1
  have hes : (ft_ws ad cA h).set a (ad a, .inl (cA 0, n, .inl fun b => Int32.ofInt (ft_hs h a i.toNat z a b))) = ft_ws ad cA (ft_hs h a i.toNat z) := ft_ws_upd (ad := ad) (cA := cA) (h := h) (h' := ft_hs h a i.toNat z) (k := a) (sh := .inr (0, n)) ha ft_hs_ne
  rw [hes] at hP1 hD1
  exact kk p l e s m args below meth c D ad cA H1 locs1 ls hC ⟨hP1, hD1, hS1, ft_wf_hs hR.2.2.2 (by rw [ft_lgA ha]; exact ft_okh hS)⟩ hL (ft_okt (ft_okt (ft_okt hS))) hl
theorem fv_last {a n : Nat} {i z : Int} (hd : decode K.2.1 pc = .ok (.lastore, 1)) (hp : pc + 1 = pc') (ha : ft_sh a = some (.inr (1, n))) (hi : 0 ≤ i ∧ i < (n : Int)) (kk : ft_V K pc' L st (ft_hs h a i.toNat z) R) : ft_V K pc L (.inr (.inl z) :: .inl i :: .inr (.inr a) :: st) h R := by
  intro p l e s m args below meth c D ad cA H locs ls hC hR hL hS hl
  subst hp
  have hin := ft_okh (ft_okt hS)
  refine va_last (f := fun j => Int64.ofInt (h a j)) hC.1 hC.2.1 hC.2.2.2.2.2.2.2.1 hR.1 hR.2.1 hR.2.2.1 a 1 (ft_ws_get ha) rfl (ft_vpin hin hi.1 hi.2) hd (fun H1 locs1 hP1 hD1 hS1 => ?_)
  rw [ft_cl hin, ft_updL rfl] at hP1 hD1
  have hes : (ft_ws ad cA h).set a (ad a, .inl (cA 1, n, .inr (.inl fun b => Int64.ofInt (ft_hs h a i.toNat z a b)))) = ft_ws ad cA (ft_hs h a i.toNat z) := ft_ws_upd (ad := ad) (cA := cA) (h := h) (h' := ft_hs h a i.toNat z) (k := a) (sh := .inr (1, n)) ha ft_hs_ne
  rw [hes] at hP1 hD1
  exact kk p l e s m args below meth c D ad cA H1 locs1 ls hC ⟨hP1, hD1, hS1, ft_wf_hs hR.2.2.2 (by rw [ft_lgA ha]; exact ft_okh hS)⟩ hL (ft_okt (ft_okt (ft_okt hS))) hl
theorem fv_bast {a n : Nat} {i z : Int} (hd : decode K.2.1 pc = .ok (.bastore, 1)) (hp : pc + 1 = pc') (ha : ft_sh a = some (.inr (2, n))) (hi : 0 ≤ i ∧ i < (n : Int)) (kk : ft_V K pc' L st (ft_hs h a i.toNat (ft_i2b z)) R) : ft_V K pc L (.inl z :: .inl i :: .inr (.inr a) :: st) h R := by
  intro p l e s m args below meth c D ad cA H locs ls hC hR hL hS hl
  subst hp
  have hin := ft_okh (ft_okt hS)
  refine va_bast (f := fun j => Int32.ofInt (h a j)) hC.1 hC.2.1 hC.2.2.2.2.2.2.2.1 hR.1 hR.2.1 hR.2.2.1 a 2 (ft_ws_get ha) rfl (ft_vpin hin hi.1 hi.2) hd (fun H1 locs1 hP1 hD1 hS1 => ?_)
  rw [ft_cl hin, vp_nar_byte, ft_updI (ft_bk _).symm] at hP1 hD1
  have hes : (ft_ws ad cA h).set a (ad a, .inl (cA 2, n, .inl fun b => Int32.ofInt (ft_hs h a i.toNat (ft_i2b z) a b))) = ft_ws ad cA (ft_hs h a i.toNat (ft_i2b z)) := ft_ws_upd (ad := ad) (cA := cA) (h := h) (h' := ft_hs h a i.toNat (ft_i2b z)) (k := a) (sh := .inr (2, n)) ha ft_hs_ne
  unfold ft_i2b at hes
  rw [hes] at hP1 hD1
  exact kk p l e s m args below meth c D ad cA H1 locs1 ls hC ⟨hP1, hD1, hS1, ft_wf_hs hR.2.2.2 (by rw [ft_lgA ha]; exact ft_in_of _)⟩ hL (ft_okt (ft_okt (ft_okt hS))) hl
theorem fv_zast {a n : Nat} {i z : Int} (hd : decode K.2.1 pc = .ok (.bastore, 1)) (hp : pc + 1 = pc') (ha : ft_sh a = some (.inr (3, n))) (hi : 0 ≤ i ∧ i < (n : Int)) (hz : z = 0 ∨ z = 1) (kk : ft_V K pc' L st (ft_hs h a i.toNat z) R) : ft_V K pc L (.inl z :: .inl i :: .inr (.inr a) :: st) h R := by
  intro p l e s m args below meth c D ad cA H locs ls hC hR hL hS hl
  subst hp
  have hin := ft_okh (ft_okt hS)
  have hn : vp_nar .boolean (Int32.ofInt z) = Int32.ofInt z := by rcases hz with rfl | rfl <;> decide +kernel
  refine va_zast (f := fun j => Int32.ofInt (h a j)) hC.1 hC.2.1 hC.2.2.2.2.2.2.2.1 hR.1 hR.2.1 hR.2.2.1 a 3 (ft_ws_get ha) rfl (ft_vpin hin hi.1 hi.2) hd (fun H1 locs1 hP1 hD1 hS1 => ?_)
  rw [ft_cl hin, hn, ft_updI rfl] at hP1 hD1
  have hes : (ft_ws ad cA h).set a (ad a, .inl (cA 3, n, .inl fun b => Int32.ofInt (ft_hs h a i.toNat z a b))) = ft_ws ad cA (ft_hs h a i.toNat z) := ft_ws_upd (ad := ad) (cA := cA) (h := h) (h' := ft_hs h a i.toNat z) (k := a) (sh := .inr (3, n)) ha ft_hs_ne
  rw [hes] at hP1 hD1
  exact kk p l e s m args below meth c D ad cA H1 locs1 ls hC ⟨hP1, hD1, hS1, ft_wf_hs hR.2.2.2 (by rw [ft_lgA ha]; exact ft_okh hS)⟩ hL (ft_okt (ft_okt (ft_okt hS))) hl
theorem fv_alen {a n t : Nat} {z : Int} (hd : decode K.2.1 pc = .ok (.arraylength, 1)) (hp : pc + 1 = pc') (ha : ft_sh a = some (.inr (t, n))) (ht : t < 7) (hz : (n : Int) = z) (hb : n < 2147483648) (kk : ft_V K pc' L (.inl z :: st) h R) : ft_V K pc L (.inr (.inr a) :: st) h R := by
  intro p l e s m args below meth c D ad cA H locs ls hC hR hL hS hl
  subst hp
  subst hz
  have k := kk p l e s m args below meth c D ad cA H locs ls hC hR hL (ft_okc (show ft_in (n : Int) from ⟨by omega, by omega⟩) (ft_okt hS)) hl
  obtain ⟨ty, hty⟩ : ∃ ty : FieldType, (ft_tys cA)[t]? = some (cA t, ty) := by
    rcases (show t = 0 ∨ t = 1 ∨ t = 2 ∨ t = 3 ∨ t = 4 ∨ t = 5 ∨ t = 6 by omega) with rfl | rfl | rfl | rfl | rfl | rfl | rfl <;> exact ⟨_, rfl⟩
  exact va_alen hC.1 hC.2.1 hC.2.2.2.2.2.2.2.1 hR.1 a t (ft_ws_get ha) hty rfl hd k
end FVH
