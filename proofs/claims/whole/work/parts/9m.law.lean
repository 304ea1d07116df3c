/-! THE CLAIM OUT OF ONE WALK OF THE LAW'S BODY. Your part is whole_start (and what it stands on); all else here is the same for every law, but numbers. -/
def R_law : String := "ForwardingTableLaw"
def lw_P (b : Addr) (xs : List Int32) (args : Array Value) (s : State) : Prop := args = #[.ref b] ∧ s.IntsAt b xs ∧ xs.length ≤ 3072 ∧ (Jvm.Cond.and given_1 narrow_1).before args s = true
def lw_Q (_ : Array Value) (s : State) (o : Outcome) (t : State) : Prop := o = .returned (some (.int 1)) ∧ Framed s o t [] 600000 7302250
def lw_Z (below : List Frame) (a : Array Value) (s : State) : State → Prop := fun t => ∃ o, t.status = .running ∧ Ended t below o ∧ lw_Q a s o t
/-- the law's own end, with 1 on the stack, nothing written that was there before, its room as the claim has it -/
theorem lw_ret {p : Program} {l : Launch} {e : Env} {s : State} {m : MethodId} {below : List Frame} {meth : Method} {c : Code} {b : Nat} (hx : p.tables.exec = Jvm.exec) (hb : c.code = code) (hr : meth.sig.returnType = ret) (hlocks : meth.locks = false) {pc : Nat} {H : Heap} {ls : Array Slot} (hdg : decode code pc = .ok (.ireturn, 1)) : W p l e room_1 s m #[Value.ref b] below meth c H [] 600000 7302250 (lw_Z below #[Value.ref b] s) (F0 m pc ls [.int 1]) := by
  intro T hT X
  obtain ⟨fs, hret, hrun, hended, hW, hframe⟩ := X.leave (v := some (.int 1)) (hlocks := hlocks) (fun h => by rw [hr] at h; cases h)
  have hmeth' : T.vm.method? m = some meth := X.method'
  refine ⟨T.setFrames fs, ?_, .returned (some (.int 1)), hrun, hended, rfl, ⟨_, rfl⟩, hW, hframe⟩
  jvm_step X.here [X.here.top, hx, hb, hdg, hmeth', hr, ret, narrow_b1]
  (try refine ⟨rfl, ?_⟩); (try refine ⟨rfl, ?_⟩)
  first | (intro acts; rw [hret _ acts rfl rfl rfl]) | rw [hret _ _ rfl rfl rfl]
  exact Steps.refl _
/-- what holds at the law's entry: the machine, the code, the tables' words (any of lw_tbl by 'hts w (by decide +kernel)'), the script of L ints xs at the cell b, what the Statement gives of the start (any of its parts by flat_of_before) -/
def lw_At (p : Program) (s : State) (m : MethodId) (meth : Method) (c : Code) (b L : Nat) (xs : Nat → Int32) : Prop :=
  p.tables.exec = Jvm.exec ∧ c.code = code ∧ meth.sig.returnType = ret ∧ c.maxLocals = 4 ∧ s.vm.findClass R_law = some m.cls ∧ (∀ w ∈ lw_tbl, w.before #[Value.ref b] s = true) ∧ va_X b L xs s s.heap ∧ b < s.heap.size ∧ meth.locks = false ∧ (Jvm.Cond.and given_1 narrow_1).before #[Value.ref b] s = true
/-! THE LAW'S OWN JUDGEMENT: at pc, the script's place i, the stack st, the numbers h of all cells -/
abbrev lL (b : Nat) (ad : Nat → Nat) (i : Nat) : List (Nat × Value) := [(0, .ref b), (1, .ref (ad 0)), (2, .ref (ad 309)), (3, .int (Int32.ofInt (i : Int)))]
def lCx (D : va_G) (ad : Nat → Nat) (cA : Nat → ClassId) (s : State) : Prop := va_K D ft_cls (ft_tys cA) s ∧ ft_E ad s s.heap ∧ ∀ q, ft_A ad q → s.heap.size ≤ q
def lV (L : Nat) (xs : Nat → Int32) (pc i : Nat) (st : List ftV) (h : ftH) : Prop :=
  ∀ (p : Program) (l : Launch) (e : Env) (s : State) (m : MethodId) (below : List Frame) (meth : Method) (c : Code) (b : Nat) (D : va_G) (ad : Nat → Nat) (cA : Nat → ClassId) (H : Heap) (locs : List Loc) (ls : Array Slot),
    lw_At p s m meth c b L xs → lCx D ad cA s → ft_Rp D ad cA h H s.heap locs → (∀ v ∈ st, ft_ok v) → lv_has ls 4 (lL b ad i) →
    W p l e room_1 s m #[Value.ref b] below meth c H locs 1000 100000 (lw_Z below #[Value.ref b] s) (F0 m pc ls (st.map (ft_val ad)))
theorem l_hts {p : Program} {s : State} {m : MethodId} {meth : Method} {c : Code} {b L : Nat} {xs : Nat → Int32} (C0 : lw_At p s m meth c b L xs) : ∀ w ∈ lw_tbl.filter goodWord, w.before #[Value.ref b] s = true := fun w hw => C0.2.2.2.2.2.1 w (List.mem_filter.mp hw).1
theorem l_bA {p : Program} {s : State} {m : MethodId} {meth : Method} {c : Code} {b L : Nat} {xs : Nat → Int32} {D : va_G} {ad : Nat → Nat} {cA : Nat → ClassId} (C0 : lw_At p s m meth c b L xs) (hE : lCx D ad cA s) : ¬ ft_A ad b := fun q => by
  have h1 := hE.2.2 b q
  have h2 := C0.2.2.2.2.2.2.2.1
  omega
section LVR
variable {K' : ftM} {L : Nat} {xs : Nat → Int32} {pc pc' i : Nat} {st : List ftV} {h : ftH} {R' : Option ftV → ftH → Prop}
theorem l_x (hd : decode code pc = .ok (.aload_n 1, 1)) (hp : pc + 1 = pc') (k : lV L xs pc' i (.inr (.inr 0) :: st) h) : lV L xs pc i st h := by
  intro p l e s m below meth c b D ad cA H locs ls C0 hE hR hs hl
  subst hp
  exact lv_aload_n C0.1 C0.2.1 hd rfl (lv_at hl 1 rfl) (k p l e s m below meth c b D ad cA H locs ls C0 hE hR (ft_okc (show ft_ok (.inr (.inr 0)) from trivial) hs) hl)
theorem l_m (hd : decode code pc = .ok (.aload_n 2, 1)) (hp : pc + 1 = pc') (k : lV L xs pc' i (.inr (.inr 309) :: st) h) : lV L xs pc i st h := by
  intro p l e s m below meth c b D ad cA H locs ls C0 hE hR hs hl
  subst hp
  exact lv_aload_n C0.1 C0.2.1 hd rfl (lv_at hl 2 rfl) (k p l e s m below meth c b D ad cA H locs ls C0 hE hR (ft_okc (show ft_ok (.inr (.inr 309)) from trivial) hs) hl)
theorem l_arg {k : Int} (j : Nat) (d0 : decode code pc = .ok (.aload_n 0, 1)) (d1 : decode code (pc + 1) = .ok (.iload_n 3, 1)) (d2 : decode code (pc + 2) = .ok (.iconst k, 1)) (d3 : decode code (pc + 3) = .ok (.iadd, 1)) (d4 : decode code (pc + 4) = .ok (.iaload, 1)) (hp : pc + 5 = pc') (hk : k = (j : Int)) (hj : j ≤ 5) (hL : L ≤ 3072) (hi : i + 6 ≤ L) (kk : lV L xs pc' i (.inl (xs (i + j)).toInt :: st) h) : lV L xs pc i st h := by
  intro p l e s m below meth c b D ad cA H locs ls C0 hE hR hs hl
  subst hp
  subst hk
  refine lv_aload_n C0.1 C0.2.1 d0 rfl (lv_at hl 0 rfl) ?_
  refine lv_iload_n C0.1 C0.2.1 d1 rfl (lv_at hl 3 rfl) ?_
  refine lv_iconst C0.1 C0.2.1 d2 rfl ?_
  refine lv_iadd C0.1 C0.2.1 d3 ?_
  have hin : ft_in ((i + j : Nat) : Int) := ⟨by omega, by omega⟩
  have e9 : Int32.ofInt (i : Int) + Int32.ofInt (j : Int) = Int32.ofInt ((i + j : Nat) : Int) := by
    rw [← Int32.ofInt_add]
    rfl
  rw [e9]
  refine va_sld C0.1 C0.2.1 C0.2.2.2.2.2.2.1 C0.2.2.2.2.2.2.2.1 (l_bA C0 hE) hR.2.2.1 (ft_vpin hin (by omega) (by omega)) d4 ?_
  rw [ft_cl hin, Int.toNat_natCast]
  have t := kk p l e s m below meth c b D ad cA H locs ls C0 hE hR (ft_okc (show ft_ok (.inl (xs (i + j)).toInt) from ft_in_of _) hs) hl
  simp only [List.map_cons, ft_val, ft_bk] at t
  exact t
theorem l_run {idx ci b0 n : Nat} {q : vw_C} {As st0 : List ftV} (hd : decode code pc = .ok (.invokevirtual idx, 3)) (hl0 : ft_g (.methodLink R_law idx K'.1)) (hi : ft_g (.instanceMethod K'.1)) (hs0 : ft_g (.selects K'.1.cls K'.1 K'.1)) (hw : ft_lw K' n) (hr : K'.2.2.2.2.cells = 0 ∧ K'.2.2.2.2.slots = 0 ∧ K'.2.2.2.2.frames + 1 ≤ room_1.frames ∧ 8 + (K'.2.2.1 + 11) + K'.2.2.2.2.locals ≤ room_1.locals) (hb : ft_sh b0 = some (.inl ci)) (hci : ft_cls[ci]? = some q) (hq : q.1 = K'.1.cls)
    (hst : st0 = As.reverse ++ .inr (.inr b0) :: st) (hn : As.length = n) (hcs : ft_cs st ≤ 8) (hc : ft_C K' (.inr (.inr b0) :: As) h R') :
    ∀ (p : Program) (l : Launch) (e : Env) (s : State) (m : MethodId) (below : List Frame) (meth : Method) (c : Code) (b : Nat) (D : va_G) (ad : Nat → Nat) (cA : Nat → ClassId) (H : Heap) (locs : List Loc) (ls : Array Slot),
    lw_At p s m meth c b L xs → lCx D ad cA s → ft_Rp D ad cA h H s.heap locs → (∀ v ∈ st0, ft_ok v) → ls.size = 4 →
    va_Run p l e room_1 s m #[Value.ref b] below meth c H locs 1000 100000 0 0 (F0 m pc ls (st0.map (ft_val ad))) (st.map (ft_val ad)) (ft_Q K'.2.2.2.1 R' D ad cA ((.inr (.inr b0) :: As).map (ft_val ad)).toArray) (ft_A ad) := by
  intro p l e s m below meth c b D ad cA H locs ls C0 hE hR hS hls
  subst hst
  have hok : ∀ v ∈ (.inr (.inr b0) :: As : List ftV), ft_ok v := fun v hv => by
    rcases List.mem_cons.mp hv with rfl | hv
    · trivial
    · exact hS v (List.mem_append_left _ (List.mem_reverse.mpr hv))
  have hpre : ∀ U : State, U.heap = H → s.WarmedH U.vm → ft_P0 D ad cA h U ∧ ft_E ad U U.heap ∧ ∀ v ∈ (.inr (.inr b0) :: As : List ftV), ft_ok v := fun U hU hW =>
    ⟨⟨by rw [hU]; exact hR.1, va_K.moved hW.alike hE.1, hR.2.1, hR.2.2.2⟩, by rw [hU]; exact ft_E.warm hW (ft_E.kept hR.2.2.1.2.1 hE.2.1), hok⟩
  exact va_runV (As := As.map (ft_val ad)) (rest := st.map (ft_val ad)) (b := ad b0) (C := K'.1.cls) (Ts := lw_tbl.filter goodWord) (own := R_law) (n := n) ⟨C0.1, C0.2.1, C0.2.2.2.1, C0.2.2.2.2.1, l_hts C0⟩ (hc l D ad cA) (cwV n (l_hts C0) (ft_goodc hl0 (ft_goodc hi (ft_goodc hs0 (ft_goodc hw.1 (ft_good hw.2.1))))) rfl hr.1 hr.2.1 ⟨rfl, hw.2.2⟩ hr.2.2) ⟨ft_blind, by rw [← hq]; exact va_recv hE.1 hR.1 hci (ft_ws_get hb), fun U hU hW => ⟨rfl, hpre U hU hW⟩⟩ rfl (by rw [List.length_map]; exact hn) hls (by simp [ft_val]) (lv_room (ft_cs_ok hcs)) hd ⟨Nat.le_of_ble_eq_true rfl, Nat.le_of_ble_eq_true rfl⟩
theorem l_callI {idx ci b0 n : Nat} {q : vw_C} {As st0 : List ftV} (hd : decode code pc = .ok (.invokevirtual idx, 3)) (hp : pc + 3 = pc') (hl0 : ft_g (.methodLink R_law idx K'.1)) (hi : ft_g (.instanceMethod K'.1) ∧ ft_g (.selects K'.1.cls K'.1 K'.1)) (hw : ft_lw K' n) (hr : K'.2.2.2.2.cells = 0 ∧ K'.2.2.2.2.slots = 0 ∧ K'.2.2.2.2.frames + 1 ≤ room_1.frames ∧ 8 + (K'.2.2.1 + 11) + K'.2.2.2.2.locals ≤ room_1.locals) (hret : K'.2.2.2.1 = some .int ∨ K'.2.2.2.1 = some .boolean) (hb : ft_sh b0 = some (.inl ci)) (hci : ft_cls[ci]? = some q) (hq : q.1 = K'.1.cls)
    (hst : st0 = As.reverse ++ .inr (.inr b0) :: st) (hn : As.length = n) (hcs : ft_cs st ≤ 8) (hc : ft_C K' (.inr (.inr b0) :: As) h R') (k : ∀ z h', R' (some (.inl z)) h' → lV L xs pc' i (.inl z :: st) h') : lV L xs pc i st0 h := by
  intro p l e s m below meth c b D ad cA H locs ls C0 hE hR hS hl
  subst hp
  have hst1 : ∀ v ∈ st, v ∈ st0 := fun v hv => by rw [hst]; exact List.mem_append_right _ (List.mem_cons_of_mem _ hv)
  have r0 := l_run hd hl0 hi.1 hi.2 hw hr hb hci hq hst hn hcs hc p l e s m below meth c b D ad cA H locs ls C0 hE hR hS hl.1
  have r : va_Run p l e room_1 s m #[Value.ref b] below meth c H locs 1000 100000 0 0 (F0 m pc ls (st0.map (ft_val ad))) (st.map (ft_val ad)) (va_Qi (fun r (h' : ftH) => R' (some (.inl r.toInt)) h') (fun h' t => ft_P0 D ad cA h' t) (ft_A ad) ((.inr (.inr b0) :: As).map (ft_val ad)).toArray) (ft_A ad) := by
    rcases hret with hret | hret <;> (rw [hret] at r0; exact r0)
  refine va_calli (post := fun r (h' : ftH) => R' (some (.inl r.toInt)) h') (B := fun h' t => ft_P0 D ad cA h' t) (A1 := ft_A ad) (a := ((.inr (.inr b0) :: As).map (ft_val ad)).toArray) r hR.2.2.1 (fun q _ hq => hq) (fun q hq => hq) (fun z u t H1 locs1 ht hvm hw hB hz hk hS1 => ?_)
  have t := k z.toInt u hw p l e s m below meth c b D ad cA H1 locs1 ls C0 hE ⟨by rw [← ht]; exact hB.1, hB.2.2.1, hS1, hB.2.2.2⟩ (ft_okc (show ft_ok (.inl z.toInt) from ft_in_of z) (fun v hv => hS v (hst1 v hv))) hl
  simp only [List.map_cons, ft_val, ft_bk] at t
  exact t
theorem l_callL {idx ci b0 n : Nat} {q : vw_C} {As st0 : List ftV} (hd : decode code pc = .ok (.invokevirtual idx, 3)) (hp : pc + 3 = pc') (hl0 : ft_g (.methodLink R_law idx K'.1)) (hi : ft_g (.instanceMethod K'.1) ∧ ft_g (.selects K'.1.cls K'.1 K'.1)) (hw : ft_lw K' n) (hr : K'.2.2.2.2.cells = 0 ∧ K'.2.2.2.2.slots = 0 ∧ K'.2.2.2.2.frames + 1 ≤ room_1.frames ∧ 8 + (K'.2.2.1 + 11) + K'.2.2.2.2.locals ≤ room_1.locals) (hret : K'.2.2.2.1 = some .long) (hb : ft_sh b0 = some (.inl ci)) (hci : ft_cls[ci]? = some q) (hq : q.1 = K'.1.cls)
    (hst : st0 = As.reverse ++ .inr (.inr b0) :: st) (hn : As.length = n) (hcs : ft_cs st ≤ 8) (hc : ft_C K' (.inr (.inr b0) :: As) h R') (k : ∀ z h', R' (some (.inr (.inl z))) h' → lV L xs pc' i (.inr (.inl z) :: st) h') : lV L xs pc i st0 h := by
  intro p l e s m below meth c b D ad cA H locs ls C0 hE hR hS hl
  subst hp
  have hst1 : ∀ v ∈ st, v ∈ st0 := fun v hv => by rw [hst]; exact List.mem_append_right _ (List.mem_cons_of_mem _ hv)
  have r := l_run hd hl0 hi.1 hi.2 hw hr hb hci hq hst hn hcs hc p l e s m below meth c b D ad cA H locs ls C0 hE hR hS hl.1
  rw [hret] at r
  refine va_calll (post := fun r (h' : ftH) => R' (some (.inr (.inl r.toInt))) h') (B := fun h' t => ft_P0 D ad cA h' t) (A1 := ft_A ad) (a := ((.inr (.inr b0) :: As).map (ft_val ad)).toArray) r hR.2.2.1 (fun q _ hq => hq) (fun q hq => hq) (fun z u t H1 locs1 ht hvm hw hB hz hk hS1 => ?_)
  have t := k z.toInt u hw p l e s m below meth c b D ad cA H1 locs1 ls C0 hE ⟨by rw [← ht]; exact hB.1, hB.2.2.1, hS1, hB.2.2.2⟩ (ft_okc (show ft_ok (.inr (.inl z.toInt)) from ft_inL_of z) (fun v hv => hS v (hst1 v hv))) hl
  simp only [List.map_cons, ft_val, ft_bkL] at t
  exact t
theorem l_eqI {x y : Int} {off : Int} {tgt : Nat} (hd : decode code pc = .ok (.if_icmp .eq off, 3)) (ht : (pc : Int) + off = (tgt : Int)) (hxy : x = y) (k : lV L xs tgt i st h) : lV L xs pc i (.inl y :: .inl x :: st) h := by
  intro p l e s m below meth c b D ad cA H locs ls C0 hE hR hS hl
  subst hxy
  exact lv_icmp_eq C0.1 C0.2.1 hd ht (fun _ => k p l e s m below meth c b D ad cA H locs ls C0 hE hR (ft_okt (ft_okt hS)) hl) (fun q => absurd rfl q)
theorem l_eqL {x y : Int} {off : Int} {tgt : Nat} (hd0 : decode code pc = .ok (.lcmp, 1)) (hd : decode code (pc + 1) = .ok (.ifCond .eq off, 3)) (ht : ((pc + 1 : Nat) : Int) + off = (tgt : Int)) (hxy : x = y) (k : lV L xs tgt i st h) : lV L xs pc i (.inr (.inl y) :: .inr (.inl x) :: st) h := by
  intro p l e s m below meth c b D ad cA H locs ls C0 hE hR hS hl
  subst hxy
  refine W.lcmp C0.1 C0.2.1 hd0 ?_
  exact lv_if_eq C0.1 C0.2.1 hd ht (fun _ => k p l e s m below meth c b D ad cA H locs ls C0 hE hR (ft_okt (ft_okt hS)) hl) (fun q => absurd ((lg_cmp_eq _ _).mpr rfl) q)
theorem l_next {off : Int} {tgt : Nat} (hd : decode code pc = .ok (.iinc 3 6, 3)) (hd2 : decode code (pc + 3) = .ok (.goto off, 3)) (ht : ((pc + 3 : Nat) : Int) + off = (tgt : Int)) (k : lV L xs tgt (i + 6) [] h) : lV L xs pc i [] h := by
  intro p l e s m below meth c b D ad cA H locs ls C0 hE hR hS hl
  have e9 : Int32.ofInt (i : Int) + Int32.ofInt 6 = Int32.ofInt ((i + 6 : Nat) : Int) := by
    rw [← Int32.ofInt_add]
    rfl
  refine lv_iinc (v := Int32.ofInt ((i + 6 : Nat) : Int)) (lv' := [(3, .int (Int32.ofInt ((i + 6 : Nat) : Int))), (0, .ref b), (1, .ref (ad 0)), (2, .ref (ad 309))]) C0.1 C0.2.1 hd hl (k := 3) rfl e9 (by decide) rfl (fun ls hl => ?_)
  exact lv_goto C0.1 C0.2.1 hd2 ht (k p l e s m below meth c b D ad cA H locs ls C0 hE hR hS (lv_sub hl [1, 2, 3, 0] rfl))
end LVR
