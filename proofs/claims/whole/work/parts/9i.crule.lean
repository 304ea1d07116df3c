/-! CONSTRUCTORS: the rules of arrays, of fields, of calls -/
section GVS
variable {K K' : ftM} {pc pc' : Nat} {L L' : List (Option ftV)} {st : List ftV} {n : Nat} {h h' : ftH} {z : gZ} {ce sl n0 : Nat} {R : Nat → ftH → gZ → Prop}
theorem gar_new {ad : Nat → Nat} {k t : Nat} (h0 : ∀ j, h k j = 0) (hz : ∀ q ∈ z, q.1 ≠ k) : gar ad h z k t = if t = 1 then .inr (.inl fun _ => 0) else if t < 4 then .inl fun _ => 0 else .inr (.inr (.inr (.inr fun _ => none))) := by
  unfold gar
  simp only [h0]
  by_cases c1 : t = 1
  · rw [if_pos c1, if_pos c1]; rfl
  · rw [if_neg c1, if_neg c1]
    by_cases c2 : t < 4
    · rw [if_pos c2, if_pos c2]; rfl
    · rw [if_neg c2, if_neg c2]
      congr 4
      funext j
      rw [if_neg (fun q => hz _ q rfl)]
theorem gcA {D : va_G} {cA : Nat → ClassId} {s : State} {c' : ClassId} {t : Nat} {ty : FieldType} (hK : va_K D ft_cls (ft_tys cA) s) (ht : (ft_tys cA)[t]? = some (cA t, ty)) (hK' : va_K D ft_cls (ft_tys cA ++ [(c', ty)]) s) (hno : ∀ C, ty ≠ .object C) : c' = cA t := by
  have h1 := (hK.2 t _ ht).2
  have h2 := (hK'.2 7 (c', ty) rfl).2
  unfold va_RA at h1 h2
  cases ty with
  | object C => exact absurd rfl (hno C)
  | _ => exact Option.some.inj (h2.symm.trans h1)
theorem gv_newI {x : Int} {N : Nat} (hd : decode K.2.1 pc = .ok (.newarray .int, 2)) (hp : pc + 2 = pc') (hsh : ft_sh n = some (.inr (0, N))) (hx : x = (N : Int)) (hb : N ≤ 10000) (hce : ce + 1 ≤ K.2.2.2.2.cells) (hsl : sl + N ≤ K.2.2.2.2.slots) (k : gV K pc' L (.inr (.inr n) :: st) (n + 1) h z (ce + 1) (sl + N) n0 R) : gV K pc L (.inl x :: st) n h z ce sl n0 R := by
  intro p l e s m args below meth c D ad0 ad cA A H locs ls hC ha hP hD hS hA hz hL hs hl
  subst hp
  subst hx
  have hin : ft_in (N : Int) := ⟨by omega, by omega⟩
  refine va_newa (atype := .int) (a0 := (N, .inl fun _ => 0)) (N' := N) (ty := .int) hC.1 hC.2.1 (g_hts hC _ (ft_gf (ft_gt 69 (by decide +kernel) rfl))) rfl hC.2.2.2.2.2.2.2.1 hP hD hS hA (fun cA => rfl) (ft_nn hin (by omega)) (by rw [ft_cl hin, Int.toNat_natCast]) (by show N * 4 ≤ _; omega) hce hsl hd (fun q c' H1 hK1 hP1 hD1 hS1 => ?_)
  have ec := gcA (t := 0) hC.2.2.2.2.2.2.2.1 rfl hK1 (fun C q => by cases q)
  subst ec
  refine gv_grow (v0 := []) hsh k hC ha hz hA hL (gk_t hs) hl ?_ hP1 hD1 hS1
  show Sum.inl (cA 0, N, _) = Sum.inl (cA 0, N, gar _ h z n 0)
  rw [gar_new (fun j => hz.2.1 n (Nat.le_refl n) j) (fun x hx => by have := (hz.2.2 x hx).1; omega)]
  rfl
theorem gv_newJ {x : Int} {N : Nat} (hd : decode K.2.1 pc = .ok (.newarray .long, 2)) (hp : pc + 2 = pc') (hsh : ft_sh n = some (.inr (1, N))) (hx : x = (N : Int)) (hb : N ≤ 10000) (hce : ce + 1 ≤ K.2.2.2.2.cells) (hsl : sl + N ≤ K.2.2.2.2.slots) (k : gV K pc' L (.inr (.inr n) :: st) (n + 1) h z (ce + 1) (sl + N) n0 R) : gV K pc L (.inl x :: st) n h z ce sl n0 R := by
  intro p l e s m args below meth c D ad0 ad cA A H locs ls hC ha hP hD hS hA hz hL hs hl
  subst hp
  subst hx
  have hin : ft_in (N : Int) := ⟨by omega, by omega⟩
  refine va_newa (atype := .long) (a0 := (N, .inr (.inl fun _ => 0))) (N' := N) (ty := .long) hC.1 hC.2.1 (g_hts hC _ (ft_gf (ft_gt 68 (by decide +kernel) rfl))) rfl hC.2.2.2.2.2.2.2.1 hP hD hS hA (fun cA => rfl) (ft_nn hin (by omega)) (by rw [ft_cl hin, Int.toNat_natCast]) (by show N * 8 ≤ _; omega) hce hsl hd (fun q c' H1 hK1 hP1 hD1 hS1 => ?_)
  have ec := gcA (t := 1) hC.2.2.2.2.2.2.2.1 rfl hK1 (fun C q => by cases q)
  subst ec
  refine gv_grow (v0 := []) hsh k hC ha hz hA hL (gk_t hs) hl ?_ hP1 hD1 hS1
  show Sum.inl (cA 1, N, _) = Sum.inl (cA 1, N, gar _ h z n 1)
  rw [gar_new (fun j => hz.2.1 n (Nat.le_refl n) j) (fun x hx => by have := (hz.2.2 x hx).1; omega)]
  rfl
theorem gv_newB {x : Int} {N : Nat} (hd : decode K.2.1 pc = .ok (.newarray .byte, 2)) (hp : pc + 2 = pc') (hsh : ft_sh n = some (.inr (2, N))) (hx : x = (N : Int)) (hb : N ≤ 10000) (hce : ce + 1 ≤ K.2.2.2.2.cells) (hsl : sl + N ≤ K.2.2.2.2.slots) (k : gV K pc' L (.inr (.inr n) :: st) (n + 1) h z (ce + 1) (sl + N) n0 R) : gV K pc L (.inl x :: st) n h z ce sl n0 R := by
  intro p l e s m args below meth c D ad0 ad cA A H locs ls hC ha hP hD hS hA hz hL hs hl
  subst hp
  subst hx
  have hin : ft_in (N : Int) := ⟨by omega, by omega⟩
  refine va_newa (atype := .byte) (a0 := (N, .inl fun _ => 0)) (N' := N) (ty := .byte) hC.1 hC.2.1 (g_hts hC _ (ft_gf (ft_gt 171 (by decide +kernel) rfl))) rfl hC.2.2.2.2.2.2.2.1 hP hD hS hA (fun cA => rfl) (ft_nn hin (by omega)) (by rw [ft_cl hin, Int.toNat_natCast]) (by show N * 1 ≤ _; omega) hce hsl hd (fun q c' H1 hK1 hP1 hD1 hS1 => ?_)
  have ec := gcA (t := 2) hC.2.2.2.2.2.2.2.1 rfl hK1 (fun C q => by cases q)
  subst ec
  refine gv_grow (v0 := []) hsh k hC ha hz hA hL (gk_t hs) hl ?_ hP1 hD1 hS1
  show Sum.inl (cA 2, N, _) = Sum.inl (cA 2, N, gar _ h z n 2)
  rw [gar_new (fun j => hz.2.1 n (Nat.le_refl n) j) (fun x hx => by have := (hz.2.2 x hx).1; omega)]
  rfl
theorem gv_newZ {x : Int} {N : Nat} (hd : decode K.2.1 pc = .ok (.newarray .boolean, 2)) (hp : pc + 2 = pc') (hsh : ft_sh n = some (.inr (3, N))) (hx : x = (N : Int)) (hb : N ≤ 10000) (hce : ce + 1 ≤ K.2.2.2.2.cells) (hsl : sl + N ≤ K.2.2.2.2.slots) (k : gV K pc' L (.inr (.inr n) :: st) (n + 1) h z (ce + 1) (sl + N) n0 R) : gV K pc L (.inl x :: st) n h z ce sl n0 R := by
  intro p l e s m args below meth c D ad0 ad cA A H locs ls hC ha hP hD hS hA hz hL hs hl
  subst hp
  subst hx
  have hin : ft_in (N : Int) := ⟨by omega, by omega⟩
  refine va_newa (atype := .boolean) (a0 := (N, .inl fun _ => 0)) (N' := N) (ty := .boolean) hC.1 hC.2.1 (g_hts hC _ (ft_gf (ft_gt 257 (by decide +kernel) rfl))) rfl hC.2.2.2.2.2.2.2.1 hP hD hS hA (fun cA => rfl) (ft_nn hin (by omega)) (by rw [ft_cl hin, Int.toNat_natCast]) (by show N * 1 ≤ _; omega) hce hsl hd (fun q c' H1 hK1 hP1 hD1 hS1 => ?_)
  have ec := gcA (t := 3) hC.2.2.2.2.2.2.2.1 rfl hK1 (fun C q => by cases q)
  subst ec
  refine gv_grow (v0 := []) hsh k hC ha hz hA hL (gk_t hs) hl ?_ hP1 hD1 hS1
  show Sum.inl (cA 3, N, _) = Sum.inl (cA 3, N, gar _ h z n 3)
  rw [gar_new (fun j => hz.2.1 n (Nat.le_refl n) j) (fun x hx => by have := (hz.2.2 x hx).1; omega)]
  rfl
theorem gv_newQ {x : Int} {N idx : Nat} (hd : decode K.2.1 pc = .ok (.anewarray idx, 3)) (hp : pc + 3 = pc') (hsh : ft_sh n = some (.inr (4, N))) (hcl : ft_g (.classLink K.1.cls idx "ForwardingTable$State")) (hx : x = (N : Int)) (hb : N ≤ 10000) (hce : ce + 1 ≤ K.2.2.2.2.cells) (hsl : sl + N ≤ K.2.2.2.2.slots) (k : gV K pc' L (.inr (.inr n) :: st) (n + 1) h z (ce + 1) (sl + N) n0 R) : gV K pc L (.inl x :: st) n h z ce sl n0 R := by
  intro p l e s m args below meth c D ad0 ad cA A H locs ls hC ha hP hD hS hA hz hL hs hl
  subst hp
  subst hx
  have hin : ft_in (N : Int) := ⟨by omega, by omega⟩
  refine va_newq (N' := N) hC.1 hC.2.1 hC.2.2.2.2.1 (g_hts hC _ (ft_gf hcl)) hC.2.2.2.2.2.2.2.2.1.2.1 hC.2.2.2.2.2.2.2.1 hP hD hS hA (ft_nn hin (by omega)) (by rw [ft_cl hin, Int.toNat_natCast]) (by omega) hce hsl hd (fun q c' H1 hK1 hP1 hD1 hS1 => ?_)
  have ec : c' = cA 4 := by
    obtain ⟨-, -, -, -, -, h1⟩ := (hC.2.2.2.2.2.2.2.1.2 4 (cA 4, .object "ForwardingTable$State") rfl).2
    obtain ⟨-, -, -, -, -, h2⟩ := (hK1.2 7 (c', .object "ForwardingTable$State") rfl).2
    exact Option.some.inj (h2.symm.trans h1)
  subst ec
  refine gv_grow (v0 := []) hsh k hC ha hz hA hL (gk_t hs) hl ?_ hP1 hD1 hS1
  show Sum.inl (cA 4, N, _) = Sum.inl (cA 4, N, gar _ h z n 4)
  rw [gar_new (fun j => hz.2.1 n (Nat.le_refl n) j) (fun x hx => by have := (hz.2.2 x hx).1; omega)]
  rfl
theorem gfl_len {ad : Nat → Nat} {k ci : Nat} : (gfl ad h z k ci).length = (ft_fk ci).length := by simp [gfl]
theorem gfl_get {ad : Nat → Nat} {k ci j t : Nat} (ht : (ft_fk ci)[j]? = some t) : (gfl ad h z k ci)[j]? = some (if t = 0 then .int (Int32.ofInt (h k j)) else if t = 1 then .long (Int64.ofInt (h k j)) else if (k, j) ∈ z then .ref (ad (ft_lay k j)) else .null) := by
  unfold gfl
  rw [List.getElem?_mapIdx, ht]
  rfl
theorem gfl_setR {ad : Nat → Nat} {k ci j : Nat} (ht : (ft_fk ci)[j]? = some 2) : (gfl ad h z k ci).set j (.ref (ad (ft_lay k j))) = gfl ad h ((k, j) :: z) k ci := by
  apply List.ext_getElem?
  intro i
  by_cases e : i = j
  · subst e
    rw [List.getElem?_set_self', gfl_get ht, gfl_get ht]
    simp
  · rw [List.getElem?_set_ne (fun q => e q.symm)]
    unfold gfl
    rw [List.getElem?_mapIdx, List.getElem?_mapIdx]
    cases (ft_fk ci)[i]? with
    | none => rfl
    | some t => simp [e]
theorem gfl_setI {ad : Nat → Nat} {k ci j : Nat} {x : Int} (ht : (ft_fk ci)[j]? = some 0) : (gfl ad h z k ci).set j (.int (Int32.ofInt x)) = gfl ad (ft_hs h k j x) z k ci := by
  apply List.ext_getElem?
  intro i
  by_cases e : i = j
  · subst e
    rw [List.getElem?_set_self', gfl_get ht, gfl_get ht]
    simp [ft_hs]
  · rw [List.getElem?_set_ne (fun q => e q.symm)]
    unfold gfl
    rw [List.getElem?_mapIdx, List.getElem?_mapIdx]
    cases (ft_fk ci)[i]? with
    | none => rfl
    | some t => simp [ft_hs, e]
theorem gzk_ref (hz : gzk h z n) {a j : Nat} (ha : a < n) (hb : ft_lay a j < n) : gzk h ((a, j) :: z) n := ⟨hz.1, hz.2.1, fun q hq => by
  rcases List.mem_cons.mp hq with rfl | hq
  · exact ⟨ha, hb⟩
  · exact hz.2.2 q hq⟩
theorem gzk_int (hz : gzk h z n) {a j : Nat} {x : Int} (ha : a < n) (hx : if ft_lg a j = true then ft_inL x else ft_in x) : gzk (ft_hs h a j x) z n := ⟨ft_wf_hs hz.1 hx, fun k hk i => by rw [ft_hs_ne k (by omega)]; exact hz.2.1 k hk i, hz.2.2⟩
theorem gv_putR {idx ci k a b : Nat} {q : vw_C} {ty0 : Nat → FieldType} (hd : decode K.2.1 pc = .ok (.putfield idx, 3)) (hp : pc + 3 = pc') (hf : ft_fl K.1.cls idx ci k q ty0) (hfin : (q.2.1 k).2.2.2 = true) (hdecl : q.1 = K.1.cls) (hfit : ∀ x, narrow (ty0 k) (.ref x) = .ref x ∧ fits (ty0 k) (.ref x) = true) (ha : ft_sh a = some (.inl ci)) (ht : (ft_fk ci)[k]? = some 2) (hb : ft_lay a k = b) (kk : gV K pc' L st n h ((a, k) :: z) ce sl n0 R) : gV K pc L (.inr (.inr b) :: .inr (.inr a) :: st) n h z ce sl n0 R := by
  intro p l e s m args below meth c D ad0 ad cA A H locs ls hC hd0 hP hD hS hA hz hL hs hl
  subst hp
  obtain ⟨⟨hcl, hws, hty, hnm, hlen⟩, hk, hdc, hg⟩ := hf
  have hbn : b < n := (gk_h hs).2
  have han : a < n := (gk_h (gk_t hs)).2
  refine va_putF hC.1 hC.2.1 (g_hts hC) (fun w hw => ft_gf (hws w hw)) ty0 hty hnm hC.2.2.2.2.1 hC.2.2.2.2.2.2.2.1 hP hD hS a (gws_get ha han) hcl k hk (g_hts hC _ (ft_gf hg)) (fun x hx => by rw [hdc] at hx; exact hx) hfin hC.2.2.2.2.2.2.2.2.2 (hdc.trans hdecl) (hty k hk) (hfit (ad b)).1 (hfit (ad b)).2 (by rw [gfl_len, hlen]; exact hk) hd (fun H1 locs1 hP1 hD1 hS1 => ?_)
  have hes : (gws ad cA h z n).set a (ad a, .inr (ci, (gfl ad h z a ci).set k (.ref (ad b)))) = gws ad cA h ((a, k) :: z) n := by
    rw [← hb, gfl_setR ht]
    exact gws_upd (sh := .inl ci) ha han (fun _ _ => rfl) (fun x j hx => by simp [hx])
  have hes' : (gws ad cA h z n).set a (ad a, .inr (ci, (gfl ad h z a ci).set k (ft_val ad (.inr (.inr b))))) = gws ad cA h ((a, k) :: z) n := hes
  rw [hes'] at hP1 hD1
  exact kk p l e s m args below meth c D ad0 ad cA A H1 locs1 ls hC hd0 hP1 hD1 hS1 hA (gzk_ref hz han (by rw [hb]; exact hbn)) hL (gk_t (gk_t hs)) hl
theorem gv_putI {idx ci k a : Nat} {q : vw_C} {ty0 : Nat → FieldType} {x : Int} (hd : decode K.2.1 pc = .ok (.putfield idx, 3)) (hp : pc + 3 = pc') (hf : ft_fl K.1.cls idx ci k q ty0) (hfin : (q.2.1 k).2.2.2 = false) (hty0 : ty0 k = .int) (ha : ft_sh a = some (.inl ci)) (ht : (ft_fk ci)[k]? = some 0) (kk : gV K pc' L st n (ft_hs h a k x) z ce sl n0 R) : gV K pc L (.inl x :: .inr (.inr a) :: st) n h z ce sl n0 R := by
  intro p l e s m args below meth c D ad0 ad cA A H locs ls hC hd0 hP hD hS hA hz hL hs hl
  subst hp
  obtain ⟨⟨hcl, hws, hty, hnm, hlen⟩, hk, hdc, hg⟩ := hf
  have han : a < n := (gk_h (gk_t hs)).2
  refine va_put hC.1 hC.2.1 (g_hts hC) (fun w hw => ft_gf (hws w hw)) ty0 hty hnm hC.2.2.2.2.1 hC.2.2.2.2.2.2.2.1 hP hD hS a (gws_get ha han) hcl k hk (g_hts hC _ (ft_gf hg)) (fun x hx => by rw [hdc] at hx; exact hx) hfin (hty k hk) (by rw [hty0]; rfl) (by rw [hty0]; rfl) (by rw [gfl_len, hlen]; exact hk) hd (fun H1 locs1 hP1 hD1 hS1 => ?_)
  have hes : (gws ad cA h z n).set a (ad a, .inr (ci, (gfl ad h z a ci).set k (.int (Int32.ofInt x)))) = gws ad cA (ft_hs h a k x) z n := by
    rw [gfl_setI ht]
    exact gws_upd (sh := .inl ci) ha han ft_hs_ne (fun _ _ _ => Iff.rfl)
  have hes' : (gws ad cA h z n).set a (ad a, .inr (ci, (gfl ad h z a ci).set k (ft_val ad (.inl x)))) = gws ad cA (ft_hs h a k x) z n := hes
  rw [hes'] at hP1 hD1
  exact kk p l e s m args below meth c D ad0 ad cA A H1 locs1 ls hC hd0 hP1 hD1 hS1 hA (gzk_int hz han (by rw [ft_lgO ha ht]; exact (gk_h hs).1)) hL (gk_t (gk_t hs)) hl
theorem gv_getR {idx ci k a b : Nat} {q : vw_C} {ty0 : Nat → FieldType} (hd : decode K.2.1 pc = .ok (.getfield idx, 3)) (hp : pc + 3 = pc') (hf : ft_fl K.1.cls idx ci k q ty0) (ha : ft_sh a = some (.inl ci)) (ht : (ft_fk ci)[k]? = some 2) (hb : ft_lay a k = b) (hm : (a, k) ∈ z) (kk : gV K pc' L (.inr (.inr b) :: st) n h z ce sl n0 R) : gV K pc L (.inr (.inr a) :: st) n h z ce sl n0 R := by
  intro p l e s m args below meth c D ad0 ad cA A H locs ls hC hd0 hP hD hS hA hz hL hs hl
  subst hp
  obtain ⟨⟨hcl, hws, -, -, -⟩, hk, hdc, hg⟩ := hf
  have han : a < n := (gk_h hs).2
  exact va_get hC.1 hC.2.1 (g_hts hC) (fun w hw => ft_gf (hws w hw)) hC.2.2.2.2.1 hC.2.2.2.2.2.2.2.1 hP a (gws_get ha han) hcl k hk (g_hts hC _ (ft_gf hg)) (fun x hx => by rw [hdc] at hx; exact hx) (v := .ref (ad b)) (by rw [gfl_get ht, if_neg (by decide), if_neg (by decide), if_pos hm, hb]) hd (kk p l e s m args below meth c D ad0 ad cA A H locs ls hC hd0 hP hD hS hA hz hL (gk_c ⟨trivial, by have := (hz.2.2 _ hm).2; rw [← hb]; exact this⟩ (gk_t hs)) hl)
theorem gv_iast {a N : Nat} {i x : Int} (hd : decode K.2.1 pc = .ok (.iastore, 1)) (hp : pc + 1 = pc') (ha : ft_sh a = some (.inr (0, N))) (hi : 0 ≤ i ∧ i < (N : Int)) (kk : gV K pc' L st n (ft_hs h a i.toNat x) z ce sl n0 R) : gV K pc L (.inl x :: .inl i :: .inr (.inr a) :: st) n h z ce sl n0 R := by
  intro p l e s m args below meth c D ad0 ad cA A H locs ls hC hd0 hP hD hS hA hz hL hs hl
  subst hp
  have han : a < n := (gk_h (gk_t (gk_t hs))).2
  have hin : ft_in i := (gk_h (gk_t hs)).1
  refine va_iast (f := fun j => Int32.ofInt (h a j)) hC.1 hC.2.1 hC.2.2.2.2.2.2.2.1 hP hD hS a 0 (gws_get ha han) rfl (ft_vpin hin hi.1 hi.2) hd (fun H1 locs1 hP1 hD1 hS1 => ?_)
  have hes : (gws ad cA h z n).set a (ad a, .inl (cA 0, N, .inl (upd (fun j => Int32.ofInt (h a j)) (Int32.ofInt i).toNatClampNeg (Int32.ofInt x)))) = gws ad cA (ft_hs h a i.toNat x) z n := by
    have e : upd (fun j => Int32.ofInt (h a j)) (Int32.ofInt i).toNatClampNeg (Int32.ofInt x) = fun j => Int32.ofInt (ft_hs h a i.toNat x a j) := by
      funext j
      rw [ft_cl hin]
      unfold upd ft_hs
      by_cases c : j = i.toNat
      · simp [c]
      · simp [c]
    rw [e]
    exact gws_upd (sh := .inr (0, N)) ha han ft_hs_ne (fun _ _ _ => Iff.rfl)
  rw [hes] at hP1 hD1
  exact kk p l e s m args below meth c D ad0 ad cA A H1 locs1 ls hC hd0 hP1 hD1 hS1 hA (gzk_int hz han (by rw [ft_lgA ha]; exact (gk_h hs).1)) hL (gk_t (gk_t (gk_t hs))) hl
theorem gv_bast {a N : Nat} {i x : Int} (hd : decode K.2.1 pc = .ok (.bastore, 1)) (hp : pc + 1 = pc') (ha : ft_sh a = some (.inr (2, N))) (hi : 0 ≤ i ∧ i < (N : Int)) (hx : vp_nar .byte (Int32.ofInt x) = Int32.ofInt x) (kk : gV K pc' L st n (ft_hs h a i.toNat x) z ce sl n0 R) : gV K pc L (.inl x :: .inl i :: .inr (.inr a) :: st) n h z ce sl n0 R := by
  intro p l e s m args below meth c D ad0 ad cA A H locs ls hC hd0 hP hD hS hA hz hL hs hl
  subst hp
  have han : a < n := (gk_h (gk_t (gk_t hs))).2
  have hin : ft_in i := (gk_h (gk_t hs)).1
  refine va_bast (f := fun j => Int32.ofInt (h a j)) hC.1 hC.2.1 hC.2.2.2.2.2.2.2.1 hP hD hS a 2 (gws_get ha han) rfl (ft_vpin hin hi.1 hi.2) hd (fun H1 locs1 hP1 hD1 hS1 => ?_)
  have hes : (gws ad cA h z n).set a (ad a, .inl (cA 2, N, .inl (upd (fun j => Int32.ofInt (h a j)) (Int32.ofInt i).toNatClampNeg (vp_nar .byte (Int32.ofInt x))))) = gws ad cA (ft_hs h a i.toNat x) z n := by
    have e : upd (fun j => Int32.ofInt (h a j)) (Int32.ofInt i).toNatClampNeg (vp_nar .byte (Int32.ofInt x)) = fun j => Int32.ofInt (ft_hs h a i.toNat x a j) := by
      funext j
      rw [ft_cl hin, hx]
      unfold upd ft_hs
      by_cases c : j = i.toNat
      · simp [c]
      · simp [c]
    rw [e]
    exact gws_upd (sh := .inr (2, N)) ha han ft_hs_ne (fun _ _ _ => Iff.rfl)
  have hes' : (gws ad cA h z n).set a (ad a, .inl (cA 2, N, .inl (upd (fun j => Int32.ofInt (h a j)) (Int32.ofInt i).toNatClampNeg (vp_nar .byte (Int32.ofInt x))))) = gws ad cA (ft_hs h a i.toNat x) z n := hes
  rw [hes'] at hP1 hD1
  exact kk p l e s m args below meth c D ad0 ad cA A H1 locs1 ls hC hd0 hP1 hD1 hS1 hA (gzk_int hz han (by rw [ft_lgA ha]; exact (gk_h hs).1)) hL (gk_t (gk_t (gk_t hs))) hl
end GVS
