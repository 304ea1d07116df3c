/-! THE RULES of entry and of calls -/
def ft_ent : List ftV → List (Option ftV)
  | [] => []
  | v :: vs => if ft_isL (some v) = true then some v :: none :: ft_ent vs else some v :: ft_ent vs
theorem ft_cat1 {ad : Nat → Nat} {v : ftV} : (ft_val ad v).category = 2 ↔ ft_isL (some v) = true := by
  rcases v with z | z | z
  · exact ⟨fun h => (by cases h), fun h => (by cases h)⟩
  · exact ⟨fun _ => rfl, fun _ => rfl⟩
  · exact ⟨fun h => (by cases h), fun h => (by cases h)⟩
theorem ft_ent_args (ad : Nat → Nat) : ∀ (vs : List ftV) (i j : Nat) (v : ftV), (ft_ent vs)[j]? = some (some v) → (i + j, ft_val ad v) ∈ lv_args i (vs.map (ft_val ad))
  | [], i, j, v, h => by simp [ft_ent] at h
  | u :: vs, i, j, v, h => by
    unfold ft_ent at h
    simp only [List.map_cons, lv_args]
    by_cases c : ft_isL (some u) = true
    · rw [if_pos c] at h
      rw [if_pos (ft_cat1.mpr c)]
      match j, h with
      | 0, h =>
        simp only [List.getElem?_cons_zero, Option.some.injEq] at h
        subst h
        exact List.mem_cons_self
      | 1, h => simp at h
      | j + 2, h =>
        simp only [List.getElem?_cons_succ] at h
        have := ft_ent_args ad vs (i + 2) j v h
        rw [show i + (j + 2) = i + 2 + j by omega]
        exact List.mem_cons_of_mem _ this
    · rw [if_neg c] at h
      rw [if_neg (fun q => c (ft_cat1.mp q))]
      match j, h with
      | 0, h =>
        simp only [List.getElem?_cons_zero, Option.some.injEq] at h
        subst h
        exact List.mem_cons_self
      | j + 1, h =>
        simp only [List.getElem?_cons_succ] at h
        have := ft_ent_args ad vs (i + 1) j v h
        rw [show i + (j + 1) = i + 1 + j by omega]
        exact List.mem_cons_of_mem _ this
theorem ft_ent_len (ad : Nat → Nat) : ∀ vs : List ftV, (lg_sl (vs.map (ft_val ad))).length = (ft_ent vs).length
  | [] => rfl
  | v :: vs => by
    have ih := ft_ent_len ad vs
    unfold lg_sl at ih ⊢
    unfold ft_ent
    rw [List.map_cons, List.flatMap_cons, List.length_append, ih]
    by_cases c : ft_isL (some v) = true
    · rw [if_pos c, if_pos (ft_cat1.mpr c)]
      simp
      omega
    · rw [if_neg c, if_neg (fun q => c (ft_cat1.mp q))]
      simp
      omega
theorem ft_ent_mem {v : ftV} : ∀ vs : List ftV, some v ∈ ft_ent vs → v ∈ vs
  | [], h => by simp [ft_ent] at h
  | u :: vs, h => by
    unfold ft_ent at h
    split at h
    · simp only [List.mem_cons, Option.some.injEq, reduceCtorEq, false_or] at h
      rcases h with rfl | h
      · exact List.mem_cons_self
      · exact List.mem_cons_of_mem _ (ft_ent_mem vs h)
    · simp only [List.mem_cons, Option.some.injEq] at h
      rcases h with rfl | h
      · exact List.mem_cons_self
      · exact List.mem_cons_of_mem _ (ft_ent_mem vs h)
section FVC
variable {K K' : ftM} {pc pc' : Nat} {L L' : List (Option ftV)} {st : List ftV} {h h' : ftH} {R R' : Option ftV → ftH → Prop}
theorem ft_enter {av : List ftV} {n : Nat} (hy : plainName K.1.cls = true) (hn : (ft_ent av).length ≤ K.2.2.1) (hL0 : ft_ent av ++ List.replicate n none = L) (k : ft_V K 0 L [] h R) : ft_C K av h R := by
  intro l D ad cA
  refine Met.ofW (cc := K.2.1) (maxL := K.2.2.1) (ret := K.2.2.2.1) hy rfl ?_
  intro p e s m args below meth c s₁ B hml hv
  obtain ⟨rfl, hP, hE, hok⟩ := hv
  rw [lg_entry_eq]
  have hl := lv_entry (av.map (ft_val ad)) (n := K.2.2.1) (by rw [ft_ent_len]; exact hn)
  have hget : ∀ (i : Nat) (v : ftV), L[i]? = some (some v) → (ft_ent av)[i]? = some (some v) := by
    intro i v hi
    rw [← hL0] at hi
    by_cases c : i < (ft_ent av).length
    · rwa [List.getElem?_append_left c] at hi
    · rw [List.getElem?_append_right (by omega)] at hi
      have := List.eq_of_mem_replicate (List.mem_of_getElem? hi)
      cases this
  refine k p l e s m _ below meth c D ad cA s.heap [] _ ⟨B.exec, B.bytes, B.returns, hml, findClass_of_methodNamed B.named, fun w hw hg => atoms_spec (ws := ft_wk K) B.pre w (List.mem_cons_of_mem _ (List.mem_filter.mpr ⟨hw, hg⟩)), B.notSynchronized, hP.2.1, hE⟩ ⟨hP.1, hP.2.2.1, va_S.rf, hP.2.2.2⟩ (fun v hv => ?_) (fun v hv => by cases hv) ⟨hl.1, hl.2.1, fun q hq => ?_⟩
  · obtain ⟨i, hi⟩ := List.getElem?_of_mem hv
    exact hok v (ft_ent_mem av (List.mem_of_getElem? (hget i v hi)))
  · obtain ⟨i, w⟩ := q
    obtain ⟨v, hv, rfl⟩ := ft_lv_mem.mp hq
    have := ft_ent_args ad av 0 i v (hget i v hv)
    rw [Nat.zero_add] at this
    exact hl.2.2 _ this
def ft_rm (K K' : ftM) : Prop := K'.2.2.2.2.cells = 0 ∧ K'.2.2.2.2.slots = 0 ∧ K'.2.2.2.2.frames + 1 ≤ K.2.2.2.2.frames ∧ 8 + (K'.2.2.1 + 11) + K'.2.2.2.2.locals ≤ K.2.2.2.2.locals
def ft_lw (K' : ftM) (n : Nat) : Prop := ft_g (.initialized K'.1.cls) ∧ ft_g (.code K'.1 K'.2.1 K'.2.2.1 K'.2.2.2.1) ∧ (K'.1.cls ≠ "java/lang/invoke/MethodHandle" ∧ K'.1.cls ≠ "java/lang/invoke/VarHandle" ∧ (parseMethodDescriptor K'.1.desc).map (fun d => d.parameters.length) = some n)
theorem ft_good (hc : ft_g (.code K'.1 K'.2.1 K'.2.2.1 K'.2.2.2.1)) : GoodIn (lw_tbl.filter goodWord) (ft_wk K') := by
  intro w hw
  rcases List.mem_cons.mp hw with rfl | hw
  · exact ⟨ft_gf hc, good_of_word hc.2⟩
  · exact ⟨hw, good_of_word (List.mem_filter.mp hw).2⟩
theorem ft_goodc {w : Cond} {ws : List Cond} (hw : ft_g w) (hs : GoodIn (lw_tbl.filter goodWord) ws) : GoodIn (lw_tbl.filter goodWord) (w :: ws) := by
  intro u hu
  rcases List.mem_cons.mp hu with rfl | hu
  · exact ⟨ft_gf hw, good_of_word hw.2⟩
  · exact hs u hu
def ft_cs (st : List ftV) : Nat := (st.map fun v => if ft_isL (some v) = true then 2 else 1).sum
theorem ft_cs_ok {ad : Nat → Nat} (hs : ft_cs st ≤ 8) : ((st.map (ft_val ad)).map fun v => v.category).sum ≤ 8 := by
  have e : (st.map (ft_val ad)).map (fun v => v.category) = st.map fun v => if ft_isL (some v) = true then 2 else 1 := by
    rw [List.map_map]
    apply List.map_congr_left
    intro v _
    rcases v with z | z | z <;> rfl
  rw [e]
  exact hs
theorem ft_blind {D : va_G} {ad : Nat → Nat} {cA : Nat → ClassId} {av : List Value} {P : Prop} : FrameBlind (va_Pc av (fun U => ft_P0 D ad cA h U ∧ ft_E ad U U.heap ∧ P)) := fun a U g mk q => by
  obtain ⟨q0, ⟨qP, qK, qD, qw⟩, qE, qk⟩ := q
  exact ⟨q0, ⟨qP, va_K.moved (u := U) (U := U.calling g mk a) (Vm.Alike.refl U.vm) qK, qD, qw⟩, ft_E.same (u := U) (U := U.calling g mk a) rfl qE, qk⟩
/-- a call has been run -/
def ft_Rn (K K' : ftM) (pc : Nat) (st0 st av : List ftV) (h : ftH) (R' : Option ftV → ftH → Prop) : Prop :=
  ∀ (p : Program) (l : Launch) (e : Env) (s : State) (m : MethodId) (args : Array Value) (below : List Frame) (meth : Method) (c : Code) (D : va_G) (ad : Nat → Nat) (cA : Nat → ClassId) (H : Heap) (locs : List Loc) (ls : Array Slot),
    ft_Cx K p s m args meth c D ad cA → ft_Rp D ad cA h H s.heap locs → (∀ v ∈ st0, ft_ok v) → ls.size = K.2.2.1 →
    va_Run p l e K.2.2.2.2 s m args below meth c H locs 0 0 0 0 (F0 m pc ls (st0.map (ft_val ad))) (st.map (ft_val ad)) (ft_Q K'.2.2.2.1 R' D ad cA (av.map (ft_val ad)).toArray) (ft_A ad)
theorem ft_preU {p : Program} {s : State} {m : MethodId} {args : Array Value} {meth : Method} {c : Code} {D : va_G} {ad : Nat → Nat} {cA : Nat → ClassId} {H : Heap} {locs : List Loc} (hC : ft_Cx K p s m args meth c D ad cA) (hR : ft_Rp D ad cA h H s.heap locs) {P : Prop} (hP : P) : ∀ U : State, U.heap = H → s.WarmedH U.vm → ft_P0 D ad cA h U ∧ ft_E ad U U.heap ∧ P := fun U hU hW =>
  ⟨⟨by rw [hU]; exact hR.1, va_K.moved hW.alike hC.2.2.2.2.2.2.2.1, hR.2.1, hR.2.2.2⟩, by rw [hU]; exact ft_E.warm hW (ft_E.kept hR.2.2.1.2.1 hC.2.2.2.2.2.2.2.2), hP⟩
theorem ft_rnV {idx ci b n : Nat} {q : vw_C} {As st0 : List ftV} (hd : decode K.2.1 pc = .ok (.invokevirtual idx, 3)) (hl : ft_g (.methodLink K.1.cls idx K'.1)) (hi : ft_g (.instanceMethod K'.1)) (hs : ft_g (.selects K'.1.cls K'.1 K'.1)) (hw : ft_lw K' n) (hr : ft_rm K K') (hb : ft_sh b = some (.inl ci)) (hci : ft_cls[ci]? = some q) (hq : q.1 = K'.1.cls)
    (hst : st0 = As.reverse ++ .inr (.inr b) :: st) (hn : As.length = n) (hcs : ft_cs st ≤ 8) (hc : ft_C K' (.inr (.inr b) :: As) h R') : ft_Rn K K' pc st0 st (.inr (.inr b) :: As) h R' := by
  intro p l e s m args below meth c D ad cA H locs ls hC hR hS hls
  subst hst
  have hok : ∀ v ∈ (.inr (.inr b) :: As : List ftV), ft_ok v := fun v hv => by
    rcases List.mem_cons.mp hv with rfl | hv
    · trivial
    · exact hS v (List.mem_append_left _ (List.mem_reverse.mpr hv))
  exact va_runV (As := As.map (ft_val ad)) (rest := st.map (ft_val ad)) (b := ad b) (C := K'.1.cls) (Ts := lw_tbl.filter goodWord) (own := K.1.cls) (n := n) ⟨hC.1, hC.2.1, hC.2.2.2.1, hC.2.2.2.2.1, ft_hts hC⟩ (hc l D ad cA) (cwV n (ft_hts hC) (ft_goodc hl (ft_goodc hi (ft_goodc hs (ft_goodc hw.1 (ft_good hw.2.1))))) rfl hr.1 hr.2.1 ⟨rfl, hw.2.2⟩ hr.2.2) ⟨ft_blind, by rw [← hq]; exact va_recv hC.2.2.2.2.2.2.2.1 hR.1 hci (ft_ws_get hb), fun U hU hW => ⟨rfl, ft_preU hC hR hok U hU hW⟩⟩ rfl (by rw [List.length_map]; exact hn) hls (by simp [ft_val]) (lv_room (ft_cs_ok hcs)) hd ⟨Nat.zero_le _, Nat.zero_le _⟩
theorem ft_rnS {idx n : Nat} {As st0 : List ftV} (hd : decode K.2.1 pc = .ok (.invokestatic idx, 3)) (hl : ft_g (.methodLink K.1.cls idx K'.1)) (hs : ft_g (.static K'.1)) (hown : K'.1.cls = K.1.cls) (hw : ft_lw K' n) (hr : ft_rm K K')
    (hst : st0 = As.reverse ++ st) (hn : As.length = n) (hcs : ft_cs st ≤ 8) (hc : ft_C K' As h R') : ft_Rn K K' pc st0 st As h R' := by
  intro p l e s m args below meth c D ad cA H locs ls hC hR hS hls
  subst hst
  have hok : ∀ v ∈ As, ft_ok v := fun v hv => hS v (List.mem_append_left _ (List.mem_reverse.mpr hv))
  exact va_runS (As := As.map (ft_val ad)) (rest := st.map (ft_val ad)) (Ts := lw_tbl.filter goodWord) (own := K.1.cls) (n := n) ⟨hC.1, hC.2.1, hC.2.2.2.1, hC.2.2.2.2.1, ft_hts hC⟩ (hc l D ad cA) (cwS n (ft_hts hC) (ft_goodc hl (ft_goodc hs (ft_goodc (by rw [← hown]; exact hw.1) (ft_good hw.2.1)))) rfl hr.1 hr.2.1 ⟨hown, hw.2.2⟩ hr.2.2) ⟨ft_blind, fun U hU hW => ⟨rfl, ft_preU hC hR hok U hU hW⟩⟩ rfl (by rw [List.length_map]; exact hn) hls (by simp) (lv_room (ft_cs_ok hcs)) hd ⟨Nat.zero_le _, Nat.zero_le _⟩
theorem ft_rnSN {idx n : Nat} {host : String} {As st0 : List ftV} (hd : decode K.2.1 pc = .ok (.invokestatic idx, 3)) (hl : (K.1.cls, idx, K'.1, host) ∈ ft_nests) (hs : ft_g (.static K'.1)) (hw : ft_lw K' n) (hr : ft_rm K K')
    (hst : st0 = As.reverse ++ st) (hn : As.length = n) (hcs : ft_cs st ≤ 8) (hc : ft_C K' As h R') : ft_Rn K K' pc st0 st As h R' := by
  intro p l e s m args below meth c D ad cA H locs ls hC hR hS hls
  subst hst
  have hok : ∀ v ∈ As, ft_ok v := fun v hv => hS v (List.mem_append_left _ (List.mem_reverse.mpr hv))
  exact va_runSN (As := As.map (ft_val ad)) (rest := st.map (ft_val ad)) (Ts := lw_tbl.filter goodWord) (own := K.1.cls) (host := host) (n := n) ⟨hC.1, hC.2.1, hC.2.2.2.1, hC.2.2.2.2.1, ft_hts hC⟩ (hc l D ad cA) ⟨va_cnB n (ft_hts hC) (ft_good hw.2.1) rfl hr.1 hr.2.1 (hC.2.2.2.2.2.2.2.2.1 _ hl) (ft_hts hC _ (ft_gf hw.1)) hw.2.2 hr.2.2, ft_hts hC _ (ft_gf hs), trivial⟩ ⟨ft_blind, fun U hU hW => ⟨rfl, ft_preU hC hR hok U hU hW⟩⟩ rfl (by rw [List.length_map]; exact hn) hls (by simp) (lv_room (ft_cs_ok hcs)) hd ⟨Nat.zero_le _, Nat.zero_le _⟩
theorem fv_callv {st0 av : List ftV} (hret : K'.2.2.2.1 = none) (hp : pc + 3 = pc') (hst : ∀ v ∈ st, v ∈ st0) (run : ft_Rn K K' pc st0 st av h R') (k : ∀ h', R' none h' → ft_V K pc' L st h' R) : ft_V K pc L st0 h R := by
  intro p l e s m args below meth c D ad cA H locs ls hC hR hL hS hl
  subst hp
  have r := run p l e s m args below meth c D ad cA H locs ls hC hR hS hl.1
  rw [hret] at r
  refine va_callv (post := fun h' : ftH => R' none h') (B := fun h' t => ft_P0 D ad cA h' t) (A1 := ft_A ad) (a := (av.map (ft_val ad)).toArray) r hR.2.2.1 (fun q _ hq => hq) (fun q hq => hq) (fun u t H1 locs1 ht hvm hw hB hz hk hS1 => ?_)
  exact k u hw p l e s m args below meth c D ad cA H1 locs1 ls hC ⟨by rw [← ht]; exact hB.1, hB.2.2.1, hS1, hB.2.2.2⟩ hL (fun v hv => hS v (hst v hv)) hl
theorem fv_calli {st0 av : List ftV} (hret : K'.2.2.2.1 = some .int ∨ K'.2.2.2.1 = some .boolean) (hp : pc + 3 = pc') (hst : ∀ v ∈ st, v ∈ st0) (run : ft_Rn K K' pc st0 st av h R') (k : ∀ z h', ft_in z → R' (some (.inl z)) h' → ft_V K pc' L (.inl z :: st) h' R) : ft_V K pc L st0 h R := by
  intro p l e s m args below meth c D ad cA H locs ls hC hR hL hS hl
  subst hp
  have r0 := run p l e s m args below meth c D ad cA H locs ls hC hR hS hl.1
  have r : va_Run p l e K.2.2.2.2 s m args below meth c H locs 0 0 0 0 (F0 m pc ls (st0.map (ft_val ad))) (st.map (ft_val ad)) (va_Qi (fun r (h' : ftH) => R' (some (.inl r.toInt)) h') (fun h' t => ft_P0 D ad cA h' t) (ft_A ad) (av.map (ft_val ad)).toArray) (ft_A ad) := by
    rcases hret with hret | hret <;> (rw [hret] at r0; exact r0)
  refine va_calli (post := fun r (h' : ftH) => R' (some (.inl r.toInt)) h') (B := fun h' t => ft_P0 D ad cA h' t) (A1 := ft_A ad) (a := (av.map (ft_val ad)).toArray) r hR.2.2.1 (fun q _ hq => hq) (fun q hq => hq) (fun z u t H1 locs1 ht hvm hw hB hz hk hS1 => ?_)
  have t := k z.toInt u (ft_in_of z) hw p l e s m args below meth c D ad cA H1 locs1 ls hC ⟨by rw [← ht]; exact hB.1, hB.2.2.1, hS1, hB.2.2.2⟩ hL (ft_okc (show ft_ok (.inl z.toInt) from ft_in_of z) (fun v hv => hS v (hst v hv))) hl
  simp only [List.map_cons, ft_val, ft_bk] at t
  exact t
theorem fv_calll {st0 av : List ftV} (hret : K'.2.2.2.1 = some .long) (hp : pc + 3 = pc') (hst : ∀ v ∈ st, v ∈ st0) (run : ft_Rn K K' pc st0 st av h R') (k : ∀ z h', ft_inL z → R' (some (.inr (.inl z))) h' → ft_V K pc' L (.inr (.inl z) :: st) h' R) : ft_V K pc L st0 h R := by
  intro p l e s m args below meth c D ad cA H locs ls hC hR hL hS hl
  subst hp
  have r := run p l e s m args below meth c D ad cA H locs ls hC hR hS hl.1
  rw [hret] at r
  refine va_calll (post := fun r (h' : ftH) => R' (some (.inr (.inl r.toInt))) h') (B := fun h' t => ft_P0 D ad cA h' t) (A1 := ft_A ad) (a := (av.map (ft_val ad)).toArray) r hR.2.2.1 (fun q _ hq => hq) (fun q hq => hq) (fun z u t H1 locs1 ht hvm hw hB hz hk hS1 => ?_)
  have t := k z.toInt u (ft_inL_of z) hw p l e s m args below meth c D ad cA H1 locs1 ls hC ⟨by rw [← ht]; exact hB.1, hB.2.2.1, hS1, hB.2.2.2⟩ hL (ft_okc (show ft_ok (.inr (.inl z.toInt)) from ft_inL_of z) (fun v hv => hS v (hst v hv))) hl
  simp only [List.map_cons, ft_val, ft_bkL] at t
  exact t
/-! Math.min, Math.max, System.arraycopy -/
theorem ft_mathw : ft_g (.initialized "java/lang/Math") ∧ ft_g (.static Lib.Math.min.name) ∧ ft_g (.code Lib.Math.min.name Lib.Math.min.code 2 (some .int)) ∧ ft_g (.static Lib.Math.max.name) ∧ ft_g (.code Lib.Math.max.name Lib.Math.max.code 2 (some .int)) := by
  refine ⟨⟨by decide +kernel, by decide +kernel⟩, ⟨by decide +kernel, by decide +kernel⟩, ⟨by decide +kernel, by decide +kernel⟩, ⟨by decide +kernel, by decide +kernel⟩, ⟨by decide +kernel, by decide +kernel⟩⟩
theorem fv_min {idx : Nat} {x y : Int} (hd : decode K.2.1 pc = .ok (.invokestatic idx, 3)) (hp : pc + 3 = pc') (hl : ft_g (.methodLink K.1.cls idx Lib.Math.min.name)) (hf : 1 ≤ K.2.2.2.2.frames) (hlo : 8 + 13 ≤ K.2.2.2.2.locals) (hcs : ft_cs st ≤ 8) (k : ft_V K pc' L (.inl (min x y) :: st) h R) : ft_V K pc L (.inl y :: .inl x :: st) h R := by
  intro p l e s m args below meth c D ad cA H locs ls hC hR hL hS hls
  subst hp
  have hy : ft_in y := ft_okh hS
  have hx : ft_in x := ft_okh (ft_okt hS)
  have hm : ft_in (min x y) := by unfold ft_in at *; omega
  have t := k p l e s m args below meth c D ad cA H locs ls hC hR hL (ft_okc (show ft_ok (.inl (min x y)) from hm) (ft_okt (ft_okt hS))) hls
  have e9 : (if Int32.ofInt y < Int32.ofInt x then Int32.ofInt y else Int32.ofInt x) = Int32.ofInt (min x y) := by
    rw [← Int32.toInt_inj, ft_toI hm]
    split
    · next q => rw [ft_ltI hy hx] at q; rw [ft_toI hy]; omega
    · next q => rw [ft_ltI hy hx] at q; rw [ft_toI hx]; omega
  refine va_mmin hC.1 hC.2.1 (hC.2.2.2.1.trans hls.1.symm) hC.2.2.2.2.1 (ft_hts hC _ (ft_gf hl)) (ft_hts hC _ (ft_gf ft_mathw.2.1)) (ft_hts hC _ (ft_gf ft_mathw.1)) (ft_hts hC _ (ft_gf ft_mathw.2.2.1)) hf ?_ (Nat.zero_le _) (Nat.zero_le _) hd ?_
  · have := ft_cs_ok (ad := ad) hcs
    omega
  · rw [e9]
    exact t
theorem fv_max {idx : Nat} {x y : Int} (hd : decode K.2.1 pc = .ok (.invokestatic idx, 3)) (hp : pc + 3 = pc') (hl : ft_g (.methodLink K.1.cls idx Lib.Math.max.name)) (hf : 1 ≤ K.2.2.2.2.frames) (hlo : 8 + 13 ≤ K.2.2.2.2.locals) (hcs : ft_cs st ≤ 8) (k : ft_V K pc' L (.inl (max x y) :: st) h R) : ft_V K pc L (.inl y :: .inl x :: st) h R := by
  intro p l e s m args below meth c D ad cA H locs ls hC hR hL hS hls
  subst hp
  have hy : ft_in y := ft_okh hS
  have hx : ft_in x := ft_okh (ft_okt hS)
  have hm : ft_in (max x y) := by unfold ft_in at *; omega
  have t := k p l e s m args below meth c D ad cA H locs ls hC hR hL (ft_okc (show ft_ok (.inl (max x y)) from hm) (ft_okt (ft_okt hS))) hls
  have e9 : (if Int32.ofInt x < Int32.ofInt y then Int32.ofInt y else Int32.ofInt x) = Int32.ofInt (max x y) := by
    rw [← Int32.toInt_inj, ft_toI hm]
    split
    · next q => rw [ft_ltI hx hy] at q; rw [ft_toI hy]; omega
    · next q => rw [ft_ltI hx hy] at q; rw [ft_toI hx]; omega
  refine va_mmax hC.1 hC.2.1 (hC.2.2.2.1.trans hls.1.symm) hC.2.2.2.2.1 (ft_hts hC _ (ft_gf hl)) (ft_hts hC _ (ft_gf ft_mathw.2.2.2.1)) (ft_hts hC _ (ft_gf ft_mathw.1)) (ft_hts hC _ (ft_gf ft_mathw.2.2.2.2)) hf ?_ (Nat.zero_le _) (Nat.zero_le _) hd ?_
  · have := ft_cs_ok (ad := ad) hcs
    omega
  · rw [e9]
    exact t
def ft_cp (h : ftH) (ks sp kd dp n : Nat) : ftH := fun k j => if k = kd ∧ dp ≤ j ∧ j < dp + n then h ks (sp + (j - dp)) else h k j
theorem ft_cp_ne {ks sp kd dp n : Nat} : ∀ a, a ≠ kd → ft_cp h ks sp kd dp n a = h a := fun a ha => by
  funext b
  unfold ft_cp
  rw [if_neg (fun q => ha q.1)]
theorem ft_wf_cp {ks sp kd dp n t n0 n1 : Nat} (hw : ft_wf h) (h0 : ft_sh ks = some (.inr (t, n0))) (h1 : ft_sh kd = some (.inr (t, n1))) : ft_wf (ft_cp h ks sp kd dp n) := by
  intro a b
  unfold ft_cp
  by_cases c : a = kd ∧ dp ≤ b ∧ b < dp + n
  · rw [if_pos c, c.1, ft_lgA h1]
    have := hw ks (sp + (b - dp))
    rw [ft_lgA h0] at this
    exact this
  · rw [if_neg c]
    exact hw a b
theorem ft_copyw : ft_g (.native arraycopyName) ∧ ft_g (.static arraycopyName) ∧ ft_g (.initialized "java/lang/System") := ⟨⟨by decide +kernel, by decide +kernel⟩, ⟨by decide +kernel, by decide +kernel⟩, ⟨by decide +kernel, by decide +kernel⟩⟩
theorem ft_nn {x : Int} (hx : ft_in x) (h0 : 0 ≤ x) : ¬ Int32.ofInt x < 0 := fun q => by
  rw [ft_0, ft_ltI hx ft_in0] at q
  omega
theorem fv_cpyI {idx a0 a n0 n1 : Nat} {sp dp n : Int} (hd : decode K.2.1 pc = .ok (.invokestatic idx, 3)) (hp : pc + 3 = pc') (hl : ft_g (.methodLink K.1.cls idx arraycopyName)) (hf : 1 ≤ K.2.2.2.2.frames) (hlo : 8 + 18 ≤ K.2.2.2.2.locals) (hcs : ft_cs st ≤ 8) (h0 : ft_sh a0 = some (.inr (0, n0))) (h1 : ft_sh a = some (.inr (0, n1)))
    (hb : 0 ≤ sp ∧ 0 ≤ dp ∧ 0 ≤ n ∧ sp + n ≤ (n0 : Int) ∧ dp + n ≤ (n1 : Int)) (k : ft_V K pc' L st (ft_cp h a0 sp.toNat a dp.toNat n.toNat) R) : ft_V K pc L (.inl n :: .inl dp :: .inr (.inr a) :: .inl sp :: .inr (.inr a0) :: st) h R := by
  intro p l e s m args below meth c D ad cA H locs ls hC hR hL hS hls
  subst hp
  have hn : ft_in n := ft_okh hS
  have hdp : ft_in dp := ft_okh (ft_okt hS)
  have hsp : ft_in sp := ft_okh (ft_okt (ft_okt (ft_okt hS)))
  refine va_copyi (f := fun j => Int32.ofInt (h a0 j)) (g := fun j => Int32.ofInt (h a j)) (ty := .int) hC.1 hC.2.1 (hC.2.2.2.1.trans hls.1.symm) hC.2.2.2.2.1 (ft_hts hC _ (ft_gf hl)) (ft_hts hC _ (ft_gf ft_copyw.1)) (ft_hts hC _ (ft_gf ft_copyw.2.1)) (ft_hts hC _ (ft_gf ft_copyw.2.2)) hC.2.2.2.2.2.2.2.1 hR.1 hR.2.1 hR.2.2.1 a0 a 0 0 (ft_ws_get h0) (ft_ws_get h1) rfl rfl rfl (ft_nn hsp hb.1) (ft_nn hdp hb.2.1) (ft_nn hn hb.2.2.1) (by rw [ft_cl hsp, ft_cl hn]; omega) (by rw [ft_cl hdp, ft_cl hn]; omega) (fun i _ => rfl) hf ?_ hd (fun H1 locs1 hP1 hD1 hS1 => ?_)
  · have := ft_cs_ok (ad := ad) hcs
    have e9 : nativeFrameWords "java/lang/System" "arraycopy" 5 = 7 := by decide +kernel
    rw [e9]
    omega
  · rw [ft_cl hsp, ft_cl hdp, ft_cl hn] at hP1 hD1
    have ef : va_cpy (fun j => Int32.ofInt (h a0 j)) (fun j => Int32.ofInt (h a j)) sp.toNat dp.toNat n.toNat = fun j => Int32.ofInt (ft_cp h a0 sp.toNat a dp.toNat n.toNat a j) := by
      funext j
      unfold va_cpy ft_cp
      by_cases q : dp.toNat ≤ j ∧ j < dp.toNat + n.toNat
      · rw [if_pos q, if_pos ⟨rfl, q⟩]
      · rw [if_neg q, if_neg (fun z => q z.2)]
    rw [ef] at hP1 hD1
    have hes : (ft_ws ad cA h).set a (ad a, .inl (cA 0, n1, .inl fun j => Int32.ofInt (ft_cp h a0 sp.toNat a dp.toNat n.toNat a j))) = ft_ws ad cA (ft_cp h a0 sp.toNat a dp.toNat n.toNat) := ft_ws_upd (ad := ad) (cA := cA) (h := h) (h' := ft_cp h a0 sp.toNat a dp.toNat n.toNat) (k := a) (sh := .inr (0, n1)) h1 ft_cp_ne
    rw [hes] at hP1 hD1
    exact k p l e s m args below meth c D ad cA H1 locs1 ls hC ⟨hP1, hD1, hS1, ft_wf_cp hR.2.2.2 h0 h1⟩ hL (ft_okt (ft_okt (ft_okt (ft_okt (ft_okt hS))))) hls
theorem fv_cpyL {idx a0 a n0 n1 : Nat} {sp dp n : Int} (hd : decode K.2.1 pc = .ok (.invokestatic idx, 3)) (hp : pc + 3 = pc') (hl : ft_g (.methodLink K.1.cls idx arraycopyName)) (hf : 1 ≤ K.2.2.2.2.frames) (hlo : 8 + 18 ≤ K.2.2.2.2.locals) (hcs : ft_cs st ≤ 8) (h0 : ft_sh a0 = some (.inr (1, n0))) (h1 : ft_sh a = some (.inr (1, n1)))
    (hb : 0 ≤ sp ∧ 0 ≤ dp ∧ 0 ≤ n ∧ sp + n ≤ (n0 : Int) ∧ dp + n ≤ (n1 : Int)) (k : ft_V K pc' L st (ft_cp h a0 sp.toNat a dp.toNat n.toNat) R) : ft_V K pc L (.inl n :: .inl dp :: .inr (.inr a) :: .inl sp :: .inr (.inr a0) :: st) h R := by
  intro p l e s m args below meth c D ad cA H locs ls hC hR hL hS hls
  subst hp
  have hn : ft_in n := ft_okh hS
  have hdp : ft_in dp := ft_okh (ft_okt hS)
  have hsp : ft_in sp := ft_okh (ft_okt (ft_okt (ft_okt hS)))
  refine va_copyl (f := fun j => Int64.ofInt (h a0 j)) (g := fun j => Int64.ofInt (h a j)) (ty := .long) hC.1 hC.2.1 (hC.2.2.2.1.trans hls.1.symm) hC.2.2.2.2.1 (ft_hts hC _ (ft_gf hl)) (ft_hts hC _ (ft_gf ft_copyw.1)) (ft_hts hC _ (ft_gf ft_copyw.2.1)) (ft_hts hC _ (ft_gf ft_copyw.2.2)) hC.2.2.2.2.2.2.2.1 hR.1 hR.2.1 hR.2.2.1 a0 a 1 1 (ft_ws_get h0) (ft_ws_get h1) rfl rfl rfl (ft_nn hsp hb.1) (ft_nn hdp hb.2.1) (ft_nn hn hb.2.2.1) (by rw [ft_cl hsp, ft_cl hn]; omega) (by rw [ft_cl hdp, ft_cl hn]; omega) (fun i _ => rfl) hf ?_ hd (fun H1 locs1 hP1 hD1 hS1 => ?_)
  · have := ft_cs_ok (ad := ad) hcs
    have e9 : nativeFrameWords "java/lang/System" "arraycopy" 5 = 7 := by decide +kernel
    rw [e9]
    omega
  · rw [ft_cl hsp, ft_cl hdp, ft_cl hn] at hP1 hD1
    have ef : va_cpy (fun j => Int64.ofInt (h a0 j)) (fun j => Int64.ofInt (h a j)) sp.toNat dp.toNat n.toNat = fun j => Int64.ofInt (ft_cp h a0 sp.toNat a dp.toNat n.toNat a j) := by
      funext j
      unfold va_cpy ft_cp
      by_cases q : dp.toNat ≤ j ∧ j < dp.toNat + n.toNat
      · rw [if_pos q, if_pos ⟨rfl, q⟩]
      · rw [if_neg q, if_neg (fun z => q z.2)]
    rw [ef] at hP1 hD1
    have hes : (ft_ws ad cA h).set a (ad a, .inl (cA 1, n1, .inr (.inl fun j => Int64.ofInt (ft_cp h a0 sp.toNat a dp.toNat n.toNat a j)))) = ft_ws ad cA (ft_cp h a0 sp.toNat a dp.toNat n.toNat) := ft_ws_upd (ad := ad) (cA := cA) (h := h) (h' := ft_cp h a0 sp.toNat a dp.toNat n.toNat) (k := a) (sh := .inr (1, n1)) h1 ft_cp_ne
    rw [hes] at hP1 hD1
    exact k p l e s m args below meth c D ad cA H1 locs1 ls hC ⟨hP1, hD1, hS1, ft_wf_cp hR.2.2.2 h0 h1⟩ hL (ft_okt (ft_okt (ft_okt (ft_okt (ft_okt hS))))) hls
end FVC
