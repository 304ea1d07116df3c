/-! CONSTRUCTORS: calls, loops, arrays of references -/
section GVT
variable {K K' : ftM} {pc pc' : Nat} {L L' : List (Option ftV)} {st : List ftV} {n : Nat} {h h' : ftH} {z : gZ} {ce sl n0 : Nat} {R : Nat → ftH → gZ → Prop} {R' : Nat → ftH → gZ → Prop}
theorem g_blind {D : va_G} {ad : Nat → Nat} {cA : Nat → ClassId} {av : List Value} {sz : Nat} {P : Prop} : FrameBlind (va_Pc av (fun U => U.heap.size = sz ∧ (va_P D ft_cls (gws ad cA h z n) U.heap ∧ va_K D ft_cls (ft_tys cA) U ∧ va_D (fun _ => True) (gws ad cA h z n) ∧ gzk h z n) ∧ gX U ∧ P)) := fun a U g mk q => by
  obtain ⟨q0, q1, ⟨qP, qK, qD, qz⟩, qX, qk⟩ := q
  exact ⟨q0, q1, ⟨qP, va_K.moved (u := U) (U := U.calling g mk a) (Vm.Alike.refl U.vm) qK, qD, qz⟩, gX.same (u := U) (U := U.calling g mk a) rfl qX, qk⟩
/-- a call of a constructor, run either way -/
theorem gv_called {av : List ftV} {p : Program} {l : Launch} {e : Env} {s : State} {m : MethodId} {args : Array Value} {below : List Frame} {meth : Method} {c : Code} {D : va_G} {ad0 ad : Nat → Nat} {cA : Nat → ClassId} {A : Nat → Prop} {H : Heap} {locs : List Loc} {ls : Array Slot} {st0 : List ftV}
    (hC : gCx K p s m args meth c D cA) (ha : (∀ k, k < n0 → ad k = ad0 k) ∧ n0 ≤ n) (hD : va_D A (gws ad cA h z n)) (hS : va_S A s.heap H locs) (hA : ∀ q, s.heap.size ≤ q → A q) (hL : ∀ v, some v ∈ L → ft_ok v ∧ gr n v) (hs : ∀ v ∈ st, ft_ok v ∧ gr n v) (hl : lv_has ls K.2.2.1 (ft_lv ad L))
    (run : va_Run p l e K.2.2.2.2 s m args below meth c H locs ce sl K'.2.2.2.2.cells K'.2.2.2.2.slots (F0 m pc ls (st0.map (ft_val ad))) (st.map (ft_val ad)) (gQ n ad R' D cA (va_A (gws ad cA h z n) H.size) (av.map (ft_val ad)).toArray) (va_A (gws ad cA h z n) H.size))
    (k : ∀ n1 h1 z1, R' n1 h1 z1 → n ≤ n1 ∧ gV K (pc + 3) L st n1 h1 z1 (ce + K'.2.2.2.2.cells) (sl + K'.2.2.2.2.slots) n0 R) : W p l e K.2.2.2.2 s m args below meth c H locs ce sl (MQ below (gQ n0 ad0 R D cA A) args s K.2.2.2.2.cells K.2.2.2.2.slots A) (F0 m pc ls (st0.map (ft_val ad))) := by
  have hfree : ∀ q, va_A (gws ad cA h z n) H.size q → A q := fun q hq => by
    rcases hq with ⟨i, en, hi⟩ | hq
    · exact hD.2 i _ hi
    · exact hA q (Nat.le_trans hS.1 hq)
  refine va_callv run hS (fun q _ hq => hfree q hq) hfree (fun u t H1 locs1 ht hvm hw hB hz1 hk1 hS1 => ?_)
  obtain ⟨ad1, n1, h1, z1⟩ := u
  obtain ⟨w1, w2⟩ := hw
  obtain ⟨b1, b2, b3, b4⟩ := hB
  obtain ⟨hn, kk⟩ := k n1 h1 z1 w2
  have hg : ∀ k, k < n → ad1 k = ad k := w1
  have t9 := kk p l e s m args below meth c D ad0 ad1 cA A H1 locs1 ls hC ⟨fun k hk => by rw [hg k (by omega)]; exact ha.1 k hk, by omega⟩ (by rw [← ht]; exact b1) ⟨b3.1, fun i q hq => hfree _ (b3.2 i q hq)⟩ hS1 hA b4 (fun v hv => ⟨(hL v hv).1, gr_mono hn (hL v hv).2⟩) (fun v hv => ⟨(hs v hv).1, gr_mono hn (hs v hv).2⟩) (gr_lv hg (fun v hv => (hL v hv).2) hl)
  rw [gr_map hg (fun v hv => (hs v hv).2)] at t9
  exact t9
theorem g_preU {p : Program} {s : State} {m : MethodId} {args : Array Value} {meth : Method} {c : Code} {D : va_G} {ad : Nat → Nat} {cA : Nat → ClassId} {A : Nat → Prop} {H : Heap} (hC : gCx K p s m args meth c D cA) (hP : va_P D ft_cls (gws ad cA h z n) H) (hD : va_D A (gws ad cA h z n)) (hz : gzk h z n) {P : Prop} (hp : P) : ∀ U : State, U.heap = H → s.WarmedH U.vm → U.heap.size = H.size ∧ (va_P D ft_cls (gws ad cA h z n) U.heap ∧ va_K D ft_cls (ft_tys cA) U ∧ va_D (fun _ => True) (gws ad cA h z n) ∧ gzk h z n) ∧ gX U ∧ P := fun U hU hW =>
  ⟨by rw [hU], ⟨by rw [hU]; exact hP, va_K.moved hW.alike hC.2.2.2.2.2.2.2.1, hD.weaken (fun _ _ _ _ => trivial), hz⟩, gX.moved hW hC.2.2.2.2.2.2.2.2.1, hp⟩
def g_rm (K K' : ftM) : Prop := K'.2.2.2.2.frames + 1 ≤ K.2.2.2.2.frames ∧ 8 + (K'.2.2.1 + 11) + K'.2.2.2.2.locals ≤ K.2.2.2.2.locals
theorem gv_call {idx b j : Nat} {As st0 : List ftV} (hd : decode K.2.1 pc = .ok (.invokespecial idx, 3)) (hp : pc + 3 = pc') (hl0 : ft_g (.methodLink K.1.cls idx K'.1)) (hi : ft_g (.instanceMethod K'.1)) (hw : ft_lw K' j) (hnone : K'.2.2.2.1 = none) (hname : K'.1.name = "<init>") (hr : g_rm K K') (hst : st0 = As.reverse ++ .inr (.inr b) :: st) (hj : As.length = j) (hcs : ft_cs st ≤ 8) (hce : ce + K'.2.2.2.2.cells ≤ K.2.2.2.2.cells) (hsl : sl + K'.2.2.2.2.slots ≤ K.2.2.2.2.slots) (hc : gC K' (.inr (.inr b) :: As) n h z R')
    (k : ∀ n1 h1 z1, R' n1 h1 z1 → n ≤ n1 ∧ gV K pc' L st n1 h1 z1 (ce + K'.2.2.2.2.cells) (sl + K'.2.2.2.2.slots) n0 R) : gV K pc L st0 n h z ce sl n0 R := by
  intro p l e s m args below meth c D ad0 ad cA A H locs ls hC ha hP hD hS hA hz hL hs hl
  subst hp
  subst hst
  have hok : ∀ v ∈ (.inr (.inr b) :: As : List ftV), ft_ok v ∧ gr n v := fun v hv => by
    rcases List.mem_cons.mp hv with rfl | hv
    · exact hs _ (List.mem_append_right _ List.mem_cons_self)
    · exact hs v (List.mem_append_left _ (List.mem_reverse.mpr hv))
  have hgood := ft_good hw.2.1
  have hcw : ft_wk K' = Cond.code K'.1 K'.2.1 K'.2.2.1 none :: lw_tbl.filter goodWord := by unfold ft_wk; rw [hnone]
  exact gv_called (K' := K') (av := .inr (.inr b) :: As) hC ha hD hS hA hL (fun v hv => hs v (List.mem_append_right _ (List.mem_cons_of_mem _ hv))) hl
    (va_runI (As := As.map (ft_val ad)) (rest := st.map (ft_val ad)) (b := ad b) (Ts := lw_tbl.filter goodWord) (own := K.1.cls) (n := j) ⟨hC.1, hC.2.1, hC.2.2.2.1, hC.2.2.2.2.1, g_hts hC⟩ (hc l D ad cA H.size) (cwI j (g_hts hC) hgood hcw rfl rfl (g_hts hC _ (ft_gf hw.1)) (g_hts hC _ (ft_gf hl0)) (g_hts hC _ (ft_gf hi)) hname hw.2.2 hr) ⟨g_blind, fun U hU hW => ⟨rfl, g_preU hC hP hD hz hok U hU hW⟩⟩ rfl (by rw [List.length_map]; exact hj) hl.1 (by simp [ft_val]) (lv_room (ft_cs_ok hcs)) hd ⟨hce, hsl⟩) k
theorem gv_callN {idx b j : Nat} {host : String} {As st0 : List ftV} (hd : decode K.2.1 pc = .ok (.invokespecial idx, 3)) (hp : pc + 3 = pc') (hl0 : (K.1.cls, idx, K'.1, host) ∈ ft_nests) (hi : ft_g (.instanceMethod K'.1)) (hw : ft_lw K' j) (hnone : K'.2.2.2.1 = none) (hname : K'.1.name = "<init>") (hr : g_rm K K') (hst : st0 = As.reverse ++ .inr (.inr b) :: st) (hj : As.length = j) (hcs : ft_cs st ≤ 8) (hce : ce + K'.2.2.2.2.cells ≤ K.2.2.2.2.cells) (hsl : sl + K'.2.2.2.2.slots ≤ K.2.2.2.2.slots) (hc : gC K' (.inr (.inr b) :: As) n h z R')
    (k : ∀ n1 h1 z1, R' n1 h1 z1 → n ≤ n1 ∧ gV K pc' L st n1 h1 z1 (ce + K'.2.2.2.2.cells) (sl + K'.2.2.2.2.slots) n0 R) : gV K pc L st0 n h z ce sl n0 R := by
  intro p l e s m args below meth c D ad0 ad cA A H locs ls hC ha hP hD hS hA hz hL hs hl
  subst hp
  subst hst
  have hok : ∀ v ∈ (.inr (.inr b) :: As : List ftV), ft_ok v ∧ gr n v := fun v hv => by
    rcases List.mem_cons.mp hv with rfl | hv
    · exact hs _ (List.mem_append_right _ List.mem_cons_self)
    · exact hs v (List.mem_append_left _ (List.mem_reverse.mpr hv))
  have hgood := ft_good hw.2.1
  have hcw : ft_wk K' = Cond.code K'.1 K'.2.1 K'.2.2.1 none :: lw_tbl.filter goodWord := by unfold ft_wk; rw [hnone]
  exact gv_called (K' := K') (av := .inr (.inr b) :: As) hC ha hD hS hA hL (fun v hv => hs v (List.mem_append_right _ (List.mem_cons_of_mem _ hv))) hl
    (va_runIN (As := As.map (ft_val ad)) (rest := st.map (ft_val ad)) (b := ad b) (Ts := lw_tbl.filter goodWord) (own := K.1.cls) (host := host) (n := j) ⟨hC.1, hC.2.1, hC.2.2.2.1, hC.2.2.2.2.1, g_hts hC⟩ (hc l D ad cA H.size) ⟨va_cnB j (g_hts hC) hgood hcw rfl rfl (hC.2.2.2.2.2.2.2.2.1.1 _ hl0) (g_hts hC _ (ft_gf hw.1)) hw.2.2 hr, hname, g_hts hC _ (ft_gf hi)⟩ ⟨g_blind, fun U hU hW => ⟨rfl, g_preU hC hP hD hz hok U hU hW⟩⟩ rfl (by rw [List.length_map]; exact hj) hl.1 (by simp [ft_val]) (lv_room (ft_cs_ok hcs)) hd ⟨hce, hsl⟩) k
theorem gv_istore_n {i : Fin 4} {x : Int} (hd : decode K.2.1 pc = .ok (.istore_n i, 1)) (hp : pc + 1 = pc') (hn : (i : Nat) < K.2.2.1) (hL2 : ft_st1 L (i : Nat) (.inl x) = L') (k : gV K pc' L' st n h z ce sl n0 R) : gV K pc L (.inl x :: st) n h z ce sl n0 R := by
  intro p l e s m args below meth c D ad0 ad cA A H locs ls hC ha hP hD hS hA hz hL hs hl
  subst hp
  subst hL2
  refine lv_istore_n hC.1 hC.2.1 hl hd rfl hn (fun ls' hl' => ?_)
  exact k p l e s m args below meth c D ad0 ad cA A H locs ls' hC ha hP hD hS hA hz (fun v hv => by
    rcases ft_st1_mem hv with hv | rfl
    · exact hL v hv
    · exact gk_h hs) (gk_t hs) (ft_st1_has hl')
end GVT
