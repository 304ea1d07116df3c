/-! THE LAW'S BEGINNING: the two objects are made -/
def lG (L : Nat) (xs : Nat → Int32) (pc : Nat) (lv : List (Nat × ftV)) (st : List ftV) (n : Nat) (h : ftH) (z : gZ) (ce sl : Nat) : Prop :=
  ∀ (p : Program) (l : Launch) (e : Env) (s : State) (m : MethodId) (below : List Frame) (meth : Method) (c : Code) (b : Nat) (D : va_G) (ad : Nat → Nat) (cA : Nat → ClassId) (H : Heap) (locs : List Loc) (ls : Array Slot),
    lw_At p s m meth c b L xs → va_K D ft_cls (ft_tys cA) s → va_P D ft_cls (gws ad cA h z n) H → va_D (fun q : Nat => s.heap.size ≤ q) (gws ad cA h z n) → va_S (fun q : Nat => s.heap.size ≤ q) s.heap H locs → gzk h z n → (∀ q ∈ lv, gr n q.2) → (∀ v ∈ st, ft_ok v ∧ gr n v) → lv_has ls 4 ((0, .ref b) :: lv.map fun q => (q.1, ft_val ad q.2)) →
    W p l e room_1 s m #[Value.ref b] below meth c H locs ce sl (lw_Z below #[Value.ref b] s) (F0 m pc ls (st.map (ft_val ad)))
theorem gr_lm {n : Nat} {ad ad' : Nat → Nat} (ha : ∀ k, k < n → ad' k = ad k) {lv : List (Nat × ftV)} (hv : ∀ q ∈ lv, gr n q.2) : (lv.map fun q => (q.1, ft_val ad' q.2)) = lv.map fun q => (q.1, ft_val ad q.2) := List.map_congr_left (fun q hq => by rw [gr_val ha (hv q hq)])
section LGR
variable {K' : ftM} {L : Nat} {xs : Nat → Int32} {pc pc' : Nat} {lv : List (Nat × ftV)} {st : List ftV} {n : Nat} {h : ftH} {z : gZ} {ce sl : Nat} {R' : Nat → ftH → gZ → Prop}
theorem lG_dup {v : ftV} (hd : decode code pc = .ok (.dup, 1)) (hp : pc + 1 = pc') (hv : ft_isL (some v) = false) (k : lG L xs pc' lv (v :: v :: st) n h z ce sl) : lG L xs pc lv (v :: st) n h z ce sl := by
  intro p l e s m below meth c b D ad cA H locs ls C0 hK hP hD hS hz hlv hs hl
  subst hp
  exact lv_dup C0.1 C0.2.1 hd (by rcases v with x | x | x <;> first | rfl | cases hv) (k p l e s m below meth c b D ad cA H locs ls C0 hK hP hD hS hz hlv (gk_c (gk_h hs) hs) hl)
theorem lG_new {idx ci N : Nat} {q : vw_C} {ty0 : Nat → FieldType} (hd : decode code pc = .ok (.new idx, 3)) (hp : pc + 3 = pc') (hsh : ft_sh n = some (.inl ci)) (hck : ft_ck ci q ty0) (hcl : ft_g (.classLink R_law idx q.1)) (hinst : ft_g (.instantiable q.1 q.2.2)) (hini : ft_g (.initialized q.1)) (hN : q.2.2 = N) (hdef : ∀ j, j < N → defaultValue (ty0 j) = vp_V ((ft_fk ci).map fun t => if t = 0 then .int 0 else if t = 1 then .long 0 else .null) j) (hce : ce + 1 ≤ room_1.cells) (hsl : sl + N ≤ room_1.slots) (k : lG L xs pc' lv (.inr (.inr n) :: st) (n + 1) h z (ce + 1) (sl + N)) : lG L xs pc lv st n h z ce sl := by
  intro p l e s m below meth c b D ad cA H locs ls C0 hK hP hD hS hz hlv hs hl
  subst hp
  obtain ⟨hc, hws, hty, hnm, hlen⟩ := hck
  subst hN
  refine va_new (ci := ci) (fs := (ft_fk ci).map fun t => if t = 0 then .int 0 else if t = 1 then .long 0 else .null) C0.1 C0.2.1 (l_hts C0) (fun w hw => ft_gf (hws w hw)) ty0 hty C0.2.2.2.2.1 (l_hts C0 _ (ft_gf hcl)) (l_hts C0 _ (ft_gf hinst)) (l_hts C0 _ (ft_gf hini)) hK hP hD hS (fun _ h => h) hc hdef hce hsl hd (fun q5 H1 hP1 hD1 hS1 => ?_)
  have g1 : ∀ k, k < n → (fun k => if k = n then q5 else ad k) k = ad k := fun k hk => if_neg (by omega)
  have e1 : gws ad cA h z n ++ [(q5, Sum.inr (ci, (ft_fk ci).map fun t => if t = 0 then Value.int 0 else if t = 1 then .long 0 else .null))] = gws (fun k => if k = n then q5 else ad k) cA h z (n + 1) := by
    rw [gws_push hsh (fun x hx => (hz.2.2 x hx).2) g1]
    show _ = _ ++ [((fun k => if k = n then q5 else ad k) n, Sum.inr (ci, gfl _ h z n ci))]
    rw [gfl_new (fun j => hz.2.1 n (Nat.le_refl n) j) (fun x hx => by have := (hz.2.2 x hx).1; omega)]
    simp only [if_true]
  have t := k p l e s m below meth c b D (fun k => if k = n then q5 else ad k) cA H1 locs ls C0 hK (by rw [← e1]; exact hP1) (by rw [← e1]; exact hD1) hS1 (gzk_grow hz) (fun q hq => gr_mono (by omega) (hlv q hq)) (gk_c ⟨trivial, Nat.lt_succ_self n⟩ (fun v hv => ⟨(hs v hv).1, gr_mono (by omega) (hs v hv).2⟩)) (by rw [gr_lm g1 hlv]; exact hl)
  rw [List.map_cons, gr_map g1 (fun v hv => (hs v hv).2)] at t
  have e2 : ft_val (fun k => if k = n then q5 else ad k) (.inr (.inr n)) = .ref q5 := by
    show Value.ref (if n = n then q5 else ad n) = _
    rw [if_pos rfl]
  rw [e2] at t
  exact t
theorem lG_call {idx b0 : Nat} (hd : decode code pc = .ok (.invokespecial idx, 3)) (hp : pc + 3 = pc') (hl0 : ft_g (.methodLink R_law idx K'.1)) (hi : ft_g (.instanceMethod K'.1)) (hw : ft_lw K' 0) (hnone : K'.2.2.2.1 = none) (hname : K'.1.name = "<init>") (hr : K'.2.2.2.2.frames + 1 ≤ room_1.frames ∧ 8 + (K'.2.2.1 + 11) + K'.2.2.2.2.locals ≤ room_1.locals) (hcs : ft_cs st ≤ 8) (hce : ce + K'.2.2.2.2.cells ≤ room_1.cells) (hsl : sl + K'.2.2.2.2.slots ≤ room_1.slots) (hc : gC K' [.inr (.inr b0)] n h z R')
    (k : ∀ n1 h1 z1, R' n1 h1 z1 → n ≤ n1 ∧ lG L xs pc' lv st n1 h1 z1 (ce + K'.2.2.2.2.cells) (sl + K'.2.2.2.2.slots)) : lG L xs pc lv (.inr (.inr b0) :: st) n h z ce sl := by
  intro p l e s m below meth c b D ad cA H locs ls C0 hK hP hD hS hz hlv hs hl
  subst hp
  have hok : ∀ v ∈ ([.inr (.inr b0)] : List ftV), ft_ok v ∧ gr n v := fun v hv => by
    rcases List.mem_cons.mp hv with rfl | hv
    · exact gk_h hs
    · cases hv
  have hgood := ft_good hw.2.1
  have hcw : ft_wk K' = Cond.code K'.1 K'.2.1 K'.2.2.1 none :: lw_tbl.filter goodWord := by unfold ft_wk; rw [hnone]
  have hfree : ∀ q, va_A (gws ad cA h z n) H.size q → (fun q : Nat => s.heap.size ≤ q) q := fun q hq => by
    rcases hq with ⟨i, en, hi⟩ | hq
    · exact hD.2 i _ hi
    · exact Nat.le_trans hS.1 hq
  have hX : gX s := s_X C0.2.2.2.2.2.1
  have hpre : ∀ U : State, U.heap = H → s.WarmedH U.vm → U.heap.size = H.size ∧ (va_P D ft_cls (gws ad cA h z n) U.heap ∧ va_K D ft_cls (ft_tys cA) U ∧ va_D (fun _ => True) (gws ad cA h z n) ∧ gzk h z n) ∧ gX U ∧ ∀ v ∈ ([.inr (.inr b0)] : List ftV), ft_ok v ∧ gr n v := fun U hU hW =>
    ⟨by rw [hU], ⟨by rw [hU]; exact hP, va_K.moved hW.alike hK, hD.weaken (fun _ _ _ _ => trivial), hz⟩, gX.moved hW hX, hok⟩
  have run : va_Run p l e room_1 s m #[Value.ref b] below meth c H locs ce sl K'.2.2.2.2.cells K'.2.2.2.2.slots (F0 m pc ls ((.inr (.inr b0) :: st : List ftV).map (ft_val ad))) (st.map (ft_val ad)) (gQ n ad R' D cA (va_A (gws ad cA h z n) H.size) (([.inr (.inr b0)] : List ftV).map (ft_val ad)).toArray) (va_A (gws ad cA h z n) H.size) := va_runI (As := []) (rest := st.map (ft_val ad)) (b := ad b0) (Ts := lw_tbl.filter goodWord) (own := R_law) (n := 0) ⟨C0.1, C0.2.1, C0.2.2.2.1, C0.2.2.2.2.1, l_hts C0⟩ (hc l D ad cA H.size) (cwI 0 (l_hts C0) hgood hcw rfl rfl (l_hts C0 _ (ft_gf hw.1)) (l_hts C0 _ (ft_gf hl0)) (l_hts C0 _ (ft_gf hi)) hname hw.2.2 hr) ⟨g_blind, fun U hU hW => ⟨rfl, hpre U hU hW⟩⟩ rfl rfl hl.1 rfl (lv_room (ft_cs_ok hcs)) hd ⟨hce, hsl⟩
  refine va_callv run hS (fun q _ hq => hfree q hq) hfree (fun u t H1 locs1 ht hvm hw hB hz1 hk1 hS1 => ?_)
  obtain ⟨ad1, n1, h1, z1⟩ := u
  obtain ⟨w1, w2⟩ := hw
  obtain ⟨b1, b2, b3, b4⟩ := hB
  obtain ⟨hn, kk⟩ := k n1 h1 z1 w2
  have hg : ∀ k, k < n → ad1 k = ad k := w1
  have t9 := kk p l e s m below meth c b D ad1 cA H1 locs1 ls C0 hK (by rw [← ht]; exact b1) ⟨b3.1, fun i q hq => hfree _ (b3.2 i q hq)⟩ hS1 b4 (fun q hq => gr_mono hn (hlv q hq)) (fun v hv => ⟨(gk_t hs v hv).1, gr_mono hn (gk_t hs v hv).2⟩) (by rw [gr_lm hg hlv]; exact hl)
  rw [gr_map hg (fun v hv => (gk_t hs v hv).2)] at t9
  exact t9
theorem lG_ast1 {a : Nat} (hd : decode code pc = .ok (.astore_n 1, 1)) (hp : pc + 1 = pc') (k : lG L xs pc' [(1, .inr (.inr a))] st n h z ce sl) : lG L xs pc [] (.inr (.inr a) :: st) n h z ce sl := by
  intro p l e s m below meth c b D ad cA H locs ls C0 hK hP hD hS hz hlv hs hl
  subst hp
  refine lv_astore_n (lv' := [(1, .ref (ad a)), (0, .ref b)]) C0.1 C0.2.1 hd rfl hl (by decide) rfl (fun ls hl => ?_)
  exact k p l e s m below meth c b D ad cA H locs ls C0 hK hP hD hS hz (fun q hq => by rcases List.mem_cons.mp hq with rfl | hq; exact (gk_h hs).2; cases hq) (gk_t hs) (lv_sub hl [1, 0] rfl)
theorem lG_ast2 {a a1 : Nat} (hd : decode code pc = .ok (.astore_n 2, 1)) (hp : pc + 1 = pc') (k : lG L xs pc' [(1, .inr (.inr a1)), (2, .inr (.inr a))] st n h z ce sl) : lG L xs pc [(1, .inr (.inr a1))] (.inr (.inr a) :: st) n h z ce sl := by
  intro p l e s m below meth c b D ad cA H locs ls C0 hK hP hD hS hz hlv hs hl
  subst hp
  refine lv_astore_n (lv' := [(2, .ref (ad a)), (0, .ref b), (1, .ref (ad a1))]) C0.1 C0.2.1 hd rfl hl (by decide) rfl (fun ls hl => ?_)
  exact k p l e s m below meth c b D ad cA H locs ls C0 hK hP hD hS hz (fun q hq => by
    rcases List.mem_cons.mp hq with rfl | hq
    · exact hlv _ List.mem_cons_self
    · rcases List.mem_cons.mp hq with rfl | hq
      · exact (gk_h hs).2
      · cases hq) (gk_t hs) (lv_sub hl [1, 2, 0] rfl)
theorem lG_done (hc : zChk z = true) (hd : decode code pc = .ok (.iconst 0, 1)) (hd1 : decode code (pc + 1) = .ok (.istore_n 3, 1)) (hp : pc + 2 = pc') (hce : ce ≤ 1000) (hsl : sl ≤ 100000) (k : lV L xs pc' 0 [] h) : lG L xs pc [(1, .inr (.inr 0)), (2, .inr (.inr 309))] [] 333 h z ce sl := by
  intro p l e s m below meth c b D ad cA H locs ls C0 hK hP hD hS hz hlv hs hl
  subst hp
  refine lv_iconst (v := Int32.ofInt ((0 : Nat) : Int)) C0.1 C0.2.1 hd rfl ?_
  refine lv_istore_n (lv' := [(3, .int (Int32.ofInt ((0 : Nat) : Int))), (0, .ref b), (1, .ref (ad 0)), (2, .ref (ad 309))]) C0.1 C0.2.1 hd1 rfl hl (by decide) rfl (fun ls hl => ?_)
  refine W.widen (k := 1000) (n := 100000) hce hsl ?_
  refine va_forget (fun q hq => hS.2.2 q hq) ?_
  obtain ⟨adK, adV, hE⟩ := s_E C0.2.2.2.2.2.1 C0.2.2.2.2.2.2.2.2.2
  obtain ⟨ad2, f1, f2, f3⟩ : ∃ ad2 : Nat → Nat, (∀ k, k < 333 → ad2 k = ad k) ∧ (∀ i, i < 5 → ad2 (333 + i) = adK i) ∧ (∀ i, i < 5 → ad2 (338 + i) = adV i) := by
    refine ⟨fun k => if k < 333 then ad k else if k < 338 then adK (k - 333) else adV (k - 338), fun k hk => if_pos hk, fun i hi => ?_, fun i hi => ?_⟩
    · show (if 333 + i < 333 then _ else if 333 + i < 338 then _ else _) = _
      rw [if_neg (by omega), if_pos (by omega), show 333 + i - 333 = i by omega]
    · show (if 338 + i < 333 then _ else if 338 + i < 338 then _ else _) = _
      rw [if_neg (by omega), if_neg (by omega), show 338 + i - 338 = i by omega]
  have e9 : gws ad2 cA h z 333 = gws ad cA h z 333 := gws_ad (fun q hq => (hz.2.2 q hq).2) f1
  rw [← e9] at hP hD
  obtain ⟨d1, d2⟩ := gws_wsD hD
  have hA2 : ∀ q, ft_A ad2 q → s.heap.size ≤ q := d2
  refine k p l e s m below meth c b D ad2 cA H [] ls C0 ⟨hK, hE ad2 f2 f3 hA2, hA2⟩ ⟨gws_ws hc hP, d1, ⟨hS.1, fun q h1 h2 => hS.2.1 q h1 (fun q3 => by
    have q3 : s.heap.size ≤ q := q3
    omega), fun q hq => (by cases hq)⟩, hz.1⟩ (fun v hv => by cases hv) ?_
  · have := lv_sub (l' := [(0, .ref b), (1, .ref (ad 0)), (2, .ref (ad 309)), (3, .int (Int32.ofInt ((0 : Nat) : Int)))]) hl [1, 2, 3, 0] rfl
    unfold lL
    rw [f1 0 (by omega), f1 309 (by omega)]
    exact this
end LGR
