/-! CONSTRUCTORS: calls, loops, arrays of references -/
section GVT
variable {K K' : ftM} {pc pc' : Nat} {L L' : List (Option ftV)} {st : List ftV} {n : Nat} {h h' : ftH} {z : gZ} {ce sl n0 : Nat} {R : Nat → ftH → gZ → Prop} {R' : Nat → ftH → gZ → Prop}
theorem g_blind {D : va_G} {ad : Nat → Nat} {cA : Nat → ClassId} {av : List Value} {sz : Nat} {P : Prop} : FrameBlind (va_Pc av (fun U => U.heap.size = sz ∧ (va_P D ft_cls (gws ad cA h z n) U.heap ∧ va_K D ft_cls (ft_tys cA) U ∧ va_D (fun _ => True) (gws ad cA h z n) ∧ gzk h z n) ∧ gX U ∧ P)) := fun a U g mk q => by
  obtain ⟨q0, q1, ⟨qP, qK, qD, qz⟩, qX, qk⟩ := q
  exact ⟨q0, q1, ⟨qP, va_K.moved (u := U) (U := U.calling g mk a) (Vm.Alike.refl U.vm) qK, qD, qz⟩, gX.same (u := U) (U := U.calling g mk a) rfl qX, qk⟩
/-- a call of a constructor, run either way -/
theorem gv_called {av : List ftV} {p : Program} {l : Launch} {e : Env} {s : State} {m : MethodId} {args : Array Value} {below : List Frame} {meth : Method} {c : Code} {D : va_G} {ad0 ad : Nat → Nat} {cA : Nat → ClassId} {A : Nat → Prop} {H : Heap} {locs : List Loc} {ls : Array Slot} {st0 : List ftV}
    (hC : gCx K p s m args meth c D cA) (ha : (∀ k, k < n0 → ad k = ad0 k) ∧ n0 ≤ n) (hD : va_D A (gws ad cA h z n)) (hS : va_S A s.heap H locs) (hA : ∀ q, s.heap.size ≤ q → A q) (hL : ∀ v, some v ∈ L → ft_ok v ∧ gr n v) (hs : ∀ v ∈ st, ft_ok v ∧ gr n v) (hl : lv_has ls K.2.2.1 (ft_lv ad L))
    (run : va_Run p l e K.2.2.2.2 s m args below meth c H locs ce sl K'.2.2.2.2.cells K'.2.2.2.2.slots (F0 m pc ls (st0.map (ft_val ad))) (st.map (ft_val ad)) (gQ n ad R' D cA (va_A (gws ad cA h z n) H.size) (av.map (ft_val ad)).toArray) (va_A (gws ad cA h z n) H.size))
    (k : ∀ n1 h1 z1, R' n1 h1 z1 → n ≤ n1 ∧ gV K (pc + 3) L st n1 h1 z1 (ce + K'.2.2.2.2.cells) (sl + K'.2.2.2.2.slots) n0 R) : W p l e K.2.2.2.2 s m args below meth c H locs ce sl (MQ below (gQ n0 ad0 R D cA A) args s K.2.2.2.2.cells K.2.2.2.2.slots A) (F0 m pc ls (st0.map (ft_val ad))) := by
  have hfree : ∀ q, va_A (gws ad cA h z n) H.size q → A q := fun q hq => by
    rcases hq with ⟨i, en, hi⟩ | hq
    · exact hD.2 i _ hi
    · exact hA q (Nat.le_trans hS.1 hq)
  refine va_callv run hS (fun q _ hq => hfree q hq) hfree (fun u t H1 locs1 ht hvm hw hB hz1 hk1 hS1 => ?_)
  obtain ⟨ad1, n1, h1, z1⟩ := u
  obtain ⟨w1, w2⟩ := hw
  obtain ⟨b1, b2, b3, b4⟩ := hB
  obtain ⟨hn, kk⟩ := k n1 h1 z1 w2
  have hg : ∀ k, k < n → ad1 k = ad k := w1
  have t9 := kk p l e s m args below meth c D ad0 ad1 cA A H1 locs1 ls hC ⟨fun k hk => by rw [hg k (by omega)]; exact ha.1 k hk, by omega⟩ (by rw [← ht]; exact b1) ⟨b3.1, fun i q hq => hfree _ (b3.2 i q hq)⟩ hS1 hA b4 (fun v hv => ⟨(hL v hv).1, gr_mono hn (hL v hv).2⟩) (fun v hv => ⟨(hs v hv).1, gr_mono hn (hs v hv).2⟩) (gr_lv hg (fun v hv => (hL v hv).2) hl)
  rw [gr_map hg (fun v hv => (hs v hv).2)] at t9
  exact t9
theorem g_preU {p : Program} {s : State} {m : MethodId} {args : Array Value} {meth : Method} {c : Code} {D : va_G} {ad : Nat → Nat} {cA : Nat → ClassId} {A : Nat → Prop} {H : Heap} (hC : gCx K p s m args meth c D cA) (hP : va_P D ft_cls (gws ad cA h z n) H) (hD : va_D A (gws ad cA h z n)) (hz : gzk h z n) {P : Prop} (hp : P) : ∀ U : State, U.heap = H → s.WarmedH U.vm → U.heap.size = H.size ∧ (va_P D ft_cls (gws ad cA h z n) U.heap ∧ va_K D ft_cls (ft_tys cA) U ∧ va_D (fun _ => True) (gws ad cA h z n) ∧ gzk h z n) ∧ gX U ∧ P := fun U hU hW =>
  ⟨by rw [hU], ⟨by rw [hU]; exact hP, va_K.moved hW.alike hC.2.2.2.2.2.2.2.1, hD.weaken (fun _ _ _ _ => trivial), hz⟩, gX.moved hW hC.2.2.2.2.2.2.2.2.1, hp⟩
def g_rm (K K' : ftM) : Prop := K'.2.2.2.2.frames + 1 ≤ K.2.2.2.2.frames ∧ 8 + (K'.2.2.1 + 11) + K'.2.2.2.2.locals ≤ K.2.2.2.2.locals
theorem gv_call {idx b j : Nat} {As st0 : List ftV} (hd : decode K.2.1 pc = .ok (.invokespecial idx, 3)) (hp : pc + 3 = pc') (hl0 : ft_g (.methodLink K.1.cls idx K'.1)) (hi : ft_g (.instanceMethod K'.1)) (hw : ft_lw K' j) (hnone : K'.2.2.2.1 = none) (hname : K'.1.name = "<init>") (hr : g_rm K K') (hst : st0 = As.reverse ++ .inr (.inr b) :: st) (hj : As.length = j) (hcs : ft_cs st ≤ 8) (hce : ce + K'.2.2.2.2.cells ≤ K.2.2.2.2.cells) (hsl : sl + K'.2.2.2.2.slots ≤ K.2.2.2.2.slots) (hc : gC K' (.inr (.inr b) :: As) n h z R')
    (k : ∀ n1 h1 z1, R' n1 h1 z1 → n ≤ n1 ∧ gV K pc' L st n1 h1 z1 (ce + K'.2.2.2.2.cells) (sl + K'.2.2.2.2.slots) n0 R) : gV K pc L st0 n h z ce sl n0 R := by
  intro p l e s m args below meth c D ad0 ad cA A H locs ls hC ha hP hD hS hA hz hL hs hl
  subst hp
  subst hst
  have hok : ∀ v ∈ (.inr (.inr b) :: As : List ftV), ft_ok v ∧ gr n v := fun v hv => by
    rcases List.mem_cons.mp hv with rfl | hv
    · exact hs _ (List.mem_append_right _ List.mem_cons_self)
    · exact hs v (List.mem_append_left _ (List.mem_reverse.mpr hv))
  have hgood := ft_good hw.2.1
  have hcw : ft_wk K' = Cond.code K'.1 K'.2.1 K'.2.2.1 none :: lw_tbl.filter goodWord := by unfold ft_wk; rw [hnone]
  exact gv_called (K' := K') (av := .inr (.inr b) :: As) hC ha hD hS hA hL (fun v hv => hs v (List.mem_append_right _ (List.mem_cons_of_mem _ hv))) hl
    (va_runI (As := As.map (ft_val ad)) (rest := st.map (ft_val ad)) (b := ad b) (Ts := lw_tbl.filter goodWord) (own := K.1.cls) (n := j) ⟨hC.1, hC.2.1, hC.2.2.2.1, hC.2.2.2.2.1, g_hts hC⟩ (hc l D ad cA H.size) (cwI j (g_hts hC) hgood hcw rfl rfl (g_hts hC _ (ft_gf hw.1)) (g_hts hC _ (ft_gf hl0)) (g_hts hC _ (ft_gf hi)) hname hw.2.2 hr) ⟨g_blind, fun U hU hW => ⟨rfl, g_preU hC hP hD hz hok U hU hW⟩⟩ rfl (by rw [List.length_map]; exact hj) hl.1 (by simp [ft_val]) (lv_room (ft_cs_ok hcs)) hd ⟨hce, hsl⟩) k
theorem gv_callN {idx b j : Nat} {host : String} {As st0 : List ftV} (hd : decode K.2.1 pc = .ok (.invokespecial idx, 3)) (hp : pc + 3 = pc') (hl0 : (K.1.cls, idx, K'.1, host) ∈ ft_nests) (hi : ft_g (.instanceMethod K'.1)) (hw : ft_lw K' j) (hnone : K'.2.2.2.1 = none) (hname : K'.1.name = "<init>") (hr : g_rm K K') (hst : st0 = As.reverse ++ .inr (.inr b) :: st) (hj : As.length = j) (hcs : ft_cs st ≤ 8) (hce : ce + K'.2.2.2.2.cells ≤ K.2.2.2.2.cells) (hsl : sl + K'.2.2.2.2.slots ≤ K.2.2.2.2.slots) (hc : gC K' (.inr (.inr b) :: As) n h z R')
    (k : ∀ n1 h1 z1, R' n1 h1 z1 → n ≤ n1 ∧ gV K pc' L st n1 h1 z1 (ce + K'.2.2.2.2.cells) (sl + K'.2.2.2.2.slots) n0 R) : gV K pc L st0 n h z ce sl n0 R := by
  intro p l e s m args below meth c D ad0 ad cA A H locs ls hC ha hP hD hS hA hz hL hs hl
  subst hp
  subst hst
  have hok : ∀ v ∈ (.inr (.inr b) :: As : List ftV), ft_ok v ∧ gr n v := fun v hv => by
    rcases List.mem_cons.mp hv with rfl | hv
    · exact hs _ (List.mem_append_right _ List.mem_cons_self)
    · exact hs v (List.mem_append_left _ (List.mem_reverse.mpr hv))
  have hgood := ft_good hw.2.1
  have hcw : ft_wk K' = Cond.code K'.1 K'.2.1 K'.2.2.1 none :: lw_tbl.filter goodWord := by unfold ft_wk; rw [hnone]
  exact gv_called (K' := K') (av := .inr (.inr b) :: As) hC ha hD hS hA hL (fun v hv => hs v (List.mem_append_right _ (List.mem_cons_of_mem _ hv))) hl
    (va_runIN (As := As.map (ft_val ad)) (rest := st.map (ft_val ad)) (b := ad b) (Ts := lw_tbl.filter goodWord) (own := K.1.cls) (host := host) (n := j) ⟨hC.1, hC.2.1, hC.2.2.2.1, hC.2.2.2.2.1, g_hts hC⟩ (hc l D ad cA H.size) ⟨va_cnB j (g_hts hC) hgood hcw rfl rfl (hC.2.2.2.2.2.2.2.2.1.1 _ hl0) (g_hts hC _ (ft_gf hw.1)) hw.2.2 hr, hname, g_hts hC _ (ft_gf hi)⟩ ⟨g_blind, fun U hU hW => ⟨rfl, g_preU hC hP hD hz hok U hU hW⟩⟩ rfl (by rw [List.length_map]; exact hj) hl.1 (by simp [ft_val]) (lv_room (ft_cs_ok hcs)) hd ⟨hce, hsl⟩) k
theorem gv_istore_n {i : Fin 4} {x : Int} (hd : decode K.2.1 pc = .ok (.istore_n i, 1)) (hp : pc + 1 = pc') (hn : (i : Nat) < K.2.2.1) (hL2 : ft_st1 L (i : Nat) (.inl x) = L') (k : gV K pc' L' st n h z ce sl n0 R) : gV K pc L (.inl x :: st) n h z ce sl n0 R := by
  intro p l e s m args below meth c D ad0 ad cA A H locs ls hC ha hP hD hS hA hz hL hs hl
  subst hp
  subst hL2
  exact lv_istore_n hC.1 hC.2.1 hd rfl hl hn rfl (fun ls' hl' => k p l e s m args below meth c D ad0 ad cA A H locs ls' hC ha hP hD hS hA hz (fun v hv => by
    rcases ft_st1_mem hv with hv | rfl
    · exact hL v hv
    · exact gk_h hs) (gk_t hs) (ft_st1_has hl'))
theorem gv_iinc {i : Nat} {d x w : Int} (hd : decode K.2.1 pc = .ok (.iinc i d, 3)) (hp : pc + 3 = pc') (hi : L[i]? = some (some (.inl x))) (hw : ft_add x d = w) (hn : i < K.2.2.1) (hL2 : ft_st1 L i (.inl w) = L') (k : gV K pc' L' st n h z ce sl n0 R) : gV K pc L st n h z ce sl n0 R := by
  intro p l e s m args below meth c D ad0 ad cA A H locs ls hC ha hP hD hS hA hz hL hs hl
  subst hp
  subst hL2
  subst hw
  obtain ⟨j, hj⟩ := List.getElem?_of_mem (ft_lv_mem.mpr ⟨_, hi, rfl⟩ : (i, ft_val ad (.inl x)) ∈ ft_lv ad L)
  have e9 : Int32.ofInt (ft_add x d) = Int32.ofInt x + Int32.ofInt d := ft_bk _
  exact lv_iinc hC.1 hC.2.1 hd hl hj e9.symm hn rfl (fun ls' hl' => k p l e s m args below meth c D ad0 ad cA A H locs ls' hC ha hP hD hS hA hz (fun v hv => by
    rcases ft_st1_mem hv with q | rfl
    · exact hL v q
    · exact ⟨ft_in_of _, trivial⟩) hs (ft_st1_has hl'))
theorem gv_goto {off : Int} (hd : decode K.2.1 pc = .ok (.goto off, 3)) (hp : (pc : Int) + off = (pc' : Int)) (k : gV K pc' L st n h z ce sl n0 R) : gV K pc L st n h z ce sl n0 R := by
  intro p l e s m args below meth c D ad0 ad cA A H locs ls hC ha hP hD hS hA hz hL hs hl
  exact lv_goto hC.1 hC.2.1 hd hp (k p l e s m args below meth c D ad0 ad cA A H locs ls hC ha hP hD hS hA hz hL hs hl)
theorem gv_icmp_ge {x y : Int} {off : Int} {tgt : Nat} (hd : decode K.2.1 pc = .ok (.if_icmp .ge off, 3)) (hp : pc + 3 = pc') (ht : (pc : Int) + off = (tgt : Int)) (kt : y ≤ x → gV K tgt L st n h z ce sl n0 R) (kf : ¬ (y ≤ x) → gV K pc' L st n h z ce sl n0 R) : gV K pc L (.inl y :: .inl x :: st) n h z ce sl n0 R := by
  intro p l e s m args below meth c D ad0 ad cA A H locs ls hC ha hP hD hS hA hz hL hs hl
  subst hp
  have h1 := (gk_h hs).1
  have h2 := (gk_h (gk_t hs)).1
  exact lv_icmp_ge hC.1 hC.2.1 hd ht (fun q => kt ((ft_leI h1 h2).mp q) p l e s m args below meth c D ad0 ad cA A H locs ls hC ha hP hD hS hA hz hL (gk_t (gk_t hs)) hl) (fun q => kf (fun z => q ((ft_leI h1 h2).mpr z)) p l e s m args below meth c D ad0 ad cA A H locs ls hC ha hP hD hS hA hz hL (gk_t (gk_t hs)) hl)
theorem gv_aast {a b N ci : Nat} {i : Int} {q : vw_C} (hd : decode K.2.1 pc = .ok (.aastore, 1)) (hp : pc + 1 = pc') (ha : ft_sh a = some (.inr (4, N))) (hi : 0 ≤ i ∧ i < (N : Int)) (hb : ft_sh b = some (.inl ci)) (hlay : ft_lay a i.toNat = b) (hc : ft_cls[ci]? = some q) (hq : q.1 = "ForwardingTable$State") (kk : gV K pc' L st n h ((a, i.toNat) :: z) ce sl n0 R) : gV K pc L (.inr (.inr b) :: .inl i :: .inr (.inr a) :: st) n h z ce sl n0 R := by
  intro p l e s m args below meth c D ad0 ad cA A H locs ls hC hd0 hP hD hS hA hz hL hs hl
  subst hp
  have han : a < n := (gk_h (gk_t (gk_t hs))).2
  have hbn : b < n := (gk_h hs).2
  have hin : ft_in i := (gk_h (gk_t hs)).1
  refine va_astq (f := fun j => if (a, j) ∈ z then some (ad (ft_lay a j)) else none) hC.1 hC.2.1 hC.2.2.2.2.2.2.2.1 hP hD hS a 4 b ci (gws_get ha han) (r := q) (by rw [hq]; rfl) (gws_get hb hbn) hc (ft_vpin hin hi.1 hi.2) hd (fun H1 locs1 hP1 hD1 hS1 => ?_)
  have hes : (gws ad cA h z n).set a (ad a, .inl (cA 4, N, .inr (.inr (.inr (.inr (va_up (fun j => if (a, j) ∈ z then some (ad (ft_lay a j)) else none) (Int32.ofInt i).toNatClampNeg (some (ad b)))))))) = gws ad cA h ((a, i.toNat) :: z) n := by
    have e : va_up (fun j => if (a, j) ∈ z then some (ad (ft_lay a j)) else none) (Int32.ofInt i).toNatClampNeg (some (ad b)) = fun j => if (a, j) ∈ (a, i.toNat) :: z then some (ad (ft_lay a j)) else none := by
      funext j
      rw [ft_cl hin]
      unfold va_up
      by_cases c : j = i.toNat
      · subst c
        simp [hlay]
      · simp [c]
    rw [e]
    exact gws_upd (sh := .inr (4, N)) ha han (fun _ _ => rfl) (fun x j hx => by simp [hx])
  rw [hes] at hP1 hD1
  exact kk p l e s m args below meth c D ad0 ad cA A H1 locs1 ls hC hd0 hP1 hD1 hS1 hA (gzk_ref hz han (by rw [hlay]; exact hbn)) hL (gk_t (gk_t (gk_t hs))) hl
end GVT
