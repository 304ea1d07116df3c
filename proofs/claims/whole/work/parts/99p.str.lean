/-! TEXTS: the five String constants; String.length and String.charAt as the JDK has them -/
def kJ_cod : ftM := (⟨"java/lang/String", "code\x72", "()B"⟩, prog_15_method_152_code, 1, some .byte, { frames := 0, cells := 0, slots := 0, locals := 0 })
def kJ_lat : ftM := (⟨"java/lang/String", "isLatin1", "()Z"⟩, prog_15_method_154_code, 1, some .boolean, { frames := 0, cells := 0, slots := 0, locals := 0 })
def kJ_len : ftM := (⟨"java/lang/String", "length", "()I"⟩, prog_15_method_54_code, 1, some .int, { frames := 1, cells := 0, slots := 0, locals := 20 })
def kJ_pre : ftM := (⟨"jdk/internal/util/Preconditions", "checkIndex", "(IILjava/util/function/BiFunction;)I"⟩, prog_19_method_11_code, 3, some .int, { frames := 0, cells := 0, slots := 0, locals := 0 })
def kJ_chk : ftM := (⟨"java/lang/String", "checkIndex", "(II)V"⟩, prog_15_method_155_code, 2, none, { frames := 1, cells := 0, slots := 0, locals := 22 })
def kJ_l1 : ftM := (⟨"java/lang/StringLatin1", "charAt", "([BI)C"⟩, prog_16_method_2_code, 2, some .char, { frames := 2, cells := 0, slots := 0, locals := 43 })
def kJ_cha : ftM := (⟨"java/lang/String", "charAt", "(I)C"⟩, prog_15_method_56_code, 2, some .char, { frames := 3, cells := 0, slots := 0, locals := 64 })
theorem lwJ_cod : ft_lw kJ_cod 0 := ⟨ft_gt 13 (by decide +kernel) rfl, ft_gt 447 (by decide +kernel) rfl, by decide +kernel, by decide +kernel, by decide +kernel⟩
theorem lwJ_lat : ft_lw kJ_lat 0 := ⟨ft_gt 13 (by decide +kernel) rfl, ft_gt 457 (by decide +kernel) rfl, by decide +kernel, by decide +kernel, by decide +kernel⟩
theorem lwJ_len : ft_lw kJ_len 0 := ⟨ft_gt 13 (by decide +kernel) rfl, ft_gt 443 (by decide +kernel) rfl, by decide +kernel, by decide +kernel, by decide +kernel⟩
theorem lwJ_pre : ft_lw kJ_pre 3 := ⟨ft_gt 15 (by decide +kernel) rfl, ft_gt 468 (by decide +kernel) rfl, by decide +kernel, by decide +kernel, by decide +kernel⟩
theorem lwJ_chk : ft_lw kJ_chk 2 := ⟨ft_gt 13 (by decide +kernel) rfl, ft_gt 463 (by decide +kernel) rfl, by decide +kernel, by decide +kernel, by decide +kernel⟩
theorem lwJ_l1 : ft_lw kJ_l1 2 := ⟨ft_gt 14 (by decide +kernel) rfl, ft_gt 460 (by decide +kernel) rfl, by decide +kernel, by decide +kernel, by decide +kernel⟩
theorem lwJ_cha : ft_lw kJ_cha 1 := ⟨ft_gt 13 (by decide +kernel) rfl, ft_gt 453 (by decide +kernel) rfl, by decide +kernel, by decide +kernel, by decide +kernel⟩
theorem jw_value : ft_g (.fieldLink "java/lang/String" 9 "java/lang/String" "value" "[B") := ft_gt 1722 (by decide +kernel) rfl
theorem jw_code : ft_g (.fieldLink "java/lang/String" 15 "java/lang/String" "code\x72" "B") := ft_gt 1723 (by decide +kernel) rfl
theorem jw_compact : ft_g (.fieldLink "java/lang/String" 38 "java/lang/String" "COMPACT_STRINGS" "Z") := ft_gt 448 (by decide +kernel) rfl
theorem jw_form : ft_g (.fieldLink "java/lang/String" 1053 "jdk/internal/util/Preconditions" "SIOOBE_FORMATTE\x52" "Ljava/util/function/BiFunction;") := ft_gt 464 (by decide +kernel) rfl
def ch (i j : Nat) : Int := ((ft_strB.getD i []).getD j 0).toInt
def cl (i : Nat) : Nat := ft_strL.getD i 0
theorem cl_ok : ∀ i, i < 5 → Int32.ofNat (cl i) = Int32.ofInt ((cl i : Nat) : Int) ∧ cl i ≤ 8 ∧ ft_shr ((cl i : Nat) : Int) 0 = ((cl i : Nat) : Int) := by decide +kernel
theorem ch_ok : ∀ i, i < 5 → ∀ j, j < cl i → ((97 ≤ ch i j ∧ ch i j ≤ 122) ∧ ft_and (ch i j) 255 = ch i j ∧ ((Int32.ofInt (ch i j)).toUInt32 % 65536).toInt32 = Int32.ofInt (ch i j) ∧ narrow .char (.int (Int32.ofInt (ch i j))) = .int (Int32.ofInt (ch i j))) := by decide +kernel
section FVS
variable {K K' : ftM} {pc pc' : Nat} {L L' : List (Option ftV)} {st : List ftV} {h h' : ftH} {R R' : Option ftV → ftH → Prop}
theorem ft_es {p : Program} {s : State} {m : MethodId} {args : Array Value} {meth : Method} {c : Code} {D : va_G} {ad : Nat → Nat} {cA : Nat → ClassId} (hC : ft_Cx K p s m args meth c D ad cA) : ft_ES ad s s.heap := hC.2.2.2.2.2.2.2.2.2
theorem fv_ldcS {idx i : Nat} (hd : decode K.2.1 pc = .ok (.ldc idx, 2)) (hp : pc + 2 = pc') (hK : K.1.cls = "ForwardingTable$Tape") (hi : i < 5) (hx : ft_strI.getD i 0 = idx) (k : ft_V K pc' L (.inr (.inr (333 + i)) :: st) h R) : ft_V K pc L st h R := by
  intro p l e s m args below meth c D ad cA H locs ls hC hR hL hS hl
  subst hp
  have hE := (ft_es hC).1 i hi
  rw [hx, ← hK] at hE
  exact va_ldcS hC.1 hC.2.1 hC.2.2.2.2.1 hE hd (k p l e s m args below meth c D ad cA H locs ls hC hR hL (ft_okc (v := .inr (.inr (333 + i))) trivial hS) hl)
theorem fv_strV {i : Nat} (hd : decode K.2.1 pc = .ok (.getfield 9, 3)) (hp : pc + 3 = pc') (hK : K.1.cls = "java/lang/String") (hi : i < 5) (k : ft_V K pc' L (.inr (.inr (338 + i)) :: st) h R) : ft_V K pc L (.inr (.inr (333 + i)) :: st) h R := by
  intro p l e s m args below meth c D ad cA H locs ls hC hR hL hS hl
  subst hp
  have hown := hC.2.2.2.2.1
  rw [hK] at hown
  exact vk_getf hC.1 hC.2.1 ((ft_es hC).2.1.1 i hi).2.2.1 hR.2.2.1 hown (ft_hts hC _ (ft_gf jw_value)) (fun x hx => hx) hd (k p l e s m args below meth c D ad cA H locs ls hC hR hL (ft_okc (v := .inr (.inr (338 + i))) trivial (ft_okt hS)) hl)
theorem fv_strC {i : Nat} (hd : decode K.2.1 pc = .ok (.getfield 15, 3)) (hp : pc + 3 = pc') (hK : K.1.cls = "java/lang/String") (hi : i < 5) (k : ft_V K pc' L (.inl 0 :: st) h R) : ft_V K pc L (.inr (.inr (333 + i)) :: st) h R := by
  intro p l e s m args below meth c D ad cA H locs ls hC hR hL hS hl
  subst hp
  have hown := hC.2.2.2.2.1
  rw [hK] at hown
  exact vk_getf hC.1 hC.2.1 ((ft_es hC).2.1.1 i hi).2.1 hR.2.2.1 hown (ft_hts hC _ (ft_gf jw_code)) (fun x hx => hx) hd (k p l e s m args below meth c D ad cA H locs ls hC hR hL (ft_okc (show ft_ok (.inl 0) from ft_in0) (ft_okt hS)) hl)
theorem fv_compact (hd : decode K.2.1 pc = .ok (.getstatic 38, 3)) (hp : pc + 3 = pc') (hK : K.1.cls = "java/lang/String") (k : ft_V K pc' L (.inl 1 :: st) h R) : ft_V K pc L st h R := by
  intro p l e s m args below meth c D ad cA H locs ls hC hR hL hS hl
  subst hp
  have hown := hC.2.2.2.2.1
  rw [hK] at hown
  exact va_gets hC.1 hC.2.1 (ft_es hC).2.2.1 hR.2.2.1 hown (ft_hts hC _ (ft_gf jw_compact)) (fun x hx => hx) hd (k p l e s m args below meth c D ad cA H locs ls hC hR hL (ft_okc (show ft_ok (.inl 1) from ⟨by decide, by decide⟩) hS) hl)
theorem fv_strL {i : Nat} (hd : decode K.2.1 pc = .ok (.arraylength, 1)) (hp : pc + 1 = pc') (hi : i < 5) (k : ft_V K pc' L (.inl ((cl i : Nat) : Int) :: st) h R) : ft_V K pc L (.inr (.inr (338 + i)) :: st) h R := by
  intro p l e s m args below meth c D ad cA H locs ls hC hR hL hS hl
  subst hp
  have h8 := cl_ok i hi
  exact va_tlen hC.1 hC.2.1 ((ft_es hC).2.1.1 i hi).2.2.2 hR.2.2.1 h8.1 hd (k p l e s m args below meth c D ad cA H locs ls hC hR hL (ft_okc (show ft_ok (.inl ((cl i : Nat) : Int)) from ⟨by omega, by omega⟩) (ft_okt hS)) hl)
theorem fv_strB {i : Nat} {j : Nat} (hd : decode K.2.1 pc = .ok (.baload, 1)) (hp : pc + 1 = pc') (hi : i < 5) (hj : j < cl i) (k : ft_V K pc' L (.inl (ch i j) :: st) h R) : ft_V K pc L (.inl (j : Int) :: .inr (.inr (338 + i)) :: st) h R := by
  intro p l e s m args below meth c D ad cA H locs ls hC hR hL hS hl
  subst hp
  have h8 := cl_ok i hi
  have hin : ft_in (j : Int) := ⟨by omega, by omega⟩
  have t := k p l e s m args below meth c D ad cA H locs ls hC hR hL (ft_okc (show ft_ok (.inl (ch i j)) from ft_in_of _) (ft_okt (ft_okt hS))) hl
  refine va_tb hC.1 hC.2.1 ((ft_es hC).2.1.1 i hi).2.2.2 hR.2.2.1 (ft_vpin hin (by omega) (by have : cl i = ft_strL.getD i 0 := rfl; omega)) (v := .int (Int32.ofInt (ch i j))) ?_ hd t
  rw [ft_cl hin, Int.toNat_natCast]
  show Value.int _ = Value.int _
  unfold ch
  rw [ft_bk]
theorem fv_i2c {x : Int} (hd : decode K.2.1 pc = .ok (.i2c, 1)) (hp : pc + 1 = pc') (hx : ((Int32.ofInt x).toUInt32 % 65536).toInt32 = Int32.ofInt x) (k : ft_V K pc' L (.inl x :: st) h R) : ft_V K pc L (.inl x :: st) h R := by
  intro p l e s m args below meth c D ad cA H locs ls hC hR hL hS hl
  subst hp
  exact lv_i2c hC.1 hC.2.1 hd hx (k p l e s m args below meth c D ad cA H locs ls hC hR hL hS hl)
theorem fv_creturn {x : Int} (hd : decode K.2.1 pc = .ok (.ireturn, 1)) (hr : K.2.2.2.1 = some .char) (hx0 : narrow .char (.int (Int32.ofInt x)) = .int (Int32.ofInt x)) (k : R (some (.inl x)) h) : ft_V K pc L [.inl x] h R := by
  intro p l e s m args below meth c D ad cA H locs ls hC hR hL hS hl
  have hlocks := hC.2.2.2.2.2.2.1
  rw [hr]
  have hx : (Int32.ofInt x).toInt = x := ft_toI (ft_okh hS)
  exact W.zret (ty := .char) hC.1 hC.2.1 (hC.2.2.1.trans hr) hx0 (fun t ht hW => ⟨⟨Int32.ofInt x, h, rfl, by show R (some (.inl (Int32.ofInt x).toInt)) h; rw [hx]; exact k, ft_ret hC.2.2.2.2.2.2.2.1 hR ht hW⟩, hR.2.2.1.F ht⟩) hR.2.2.1.2.2 hd
theorem fv_breturn {x : Int} (hd : decode K.2.1 pc = .ok (.ireturn, 1)) (hr : K.2.2.2.1 = some .byte) (hx0 : narrow .byte (.int (Int32.ofInt x)) = .int (Int32.ofInt x)) (k : R (some (.inl x)) h) : ft_V K pc L [.inl x] h R := by
  intro p l e s m args below meth c D ad cA H locs ls hC hR hL hS hl
  have hlocks := hC.2.2.2.2.2.2.1
  rw [hr]
  have hx : (Int32.ofInt x).toInt = x := ft_toI (ft_okh hS)
  exact W.zret (ty := .byte) hC.1 hC.2.1 (hC.2.2.1.trans hr) hx0 (fun t ht hW => ⟨⟨Int32.ofInt x, h, rfl, by show R (some (.inl (Int32.ofInt x).toInt)) h; rw [hx]; exact k, ft_ret hC.2.2.2.2.2.2.2.1 hR ht hW⟩, hR.2.2.1.F ht⟩) hR.2.2.1.2.2 hd
theorem ft_rnT {idx n i : Nat} {As st0 : List ftV} (hd : decode K.2.1 pc = .ok (.invokevirtual idx, 3)) (hl : ft_g (.methodLink K.1.cls idx K'.1)) (hi : ft_g (.instanceMethod K'.1)) (hs : ft_g (.selects K'.1.cls K'.1 K'.1)) (hw : ft_lw K' n) (hr : ft_rm K K') (hq : K'.1.cls = "java/lang/String") (h5 : i < 5)
    (hst : st0 = As.reverse ++ .inr (.inr (333 + i)) :: st) (hn : As.length = n) (hcs : ft_cs st ≤ 8) (hc : ft_C K' (.inr (.inr (333 + i)) :: As) h R') : ft_Rn K K' pc st0 st (.inr (.inr (333 + i)) :: As) h R' := by
  intro p l e s m args below meth c D ad cA H locs ls hC hR hS hls
  subst hst
  have hok : ∀ v ∈ (.inr (.inr (333 + i)) :: As : List ftV), ft_ok v := fun v hv => by
    rcases List.mem_cons.mp hv with rfl | hv
    · trivial
    · exact hS v (List.mem_append_left _ (List.mem_reverse.mpr hv))
  exact va_runV (As := As.map (ft_val ad)) (rest := st.map (ft_val ad)) (b := ad (333 + i)) (C := K'.1.cls) (Ts := lw_tbl.filter goodWord) (own := K.1.cls) (n := n) ⟨hC.1, hC.2.1, hC.2.2.2.1, hC.2.2.2.2.1, ft_hts hC⟩ (hc l D ad cA) (cwV n (ft_hts hC) (ft_goodc hl (ft_goodc hi (ft_goodc hs (ft_goodc hw.1 (ft_good hw.2.1))))) rfl hr.1 hr.2.1 ⟨rfl, hw.2.2⟩ hr.2.2) ⟨ft_blind, by rw [hq]; exact vk_recv (adK := fun i => ad (333 + i)) (i := i) (ft_es hC).2.1 h5 hR.2.2.1, fun U hU hW => ⟨rfl, ft_preU hC hR hok U hU hW⟩⟩ rfl (by rw [List.length_map]; exact hn) hls (by simp [ft_val]) (lv_room (ft_cs_ok hcs)) hd ⟨Nat.zero_le _, Nat.zero_le _⟩
theorem ft_rnO {idx n : Nat} {As st0 : List ftV} (hd : decode K.2.1 pc = .ok (.invokestatic idx, 3)) (hl : ft_g (.methodLink K.1.cls idx K'.1)) (hs : ft_g (.static K'.1)) (hw : ft_lw K' n) (hr : ft_rm K K')
    (hst : st0 = As.reverse ++ st) (hn : As.length = n) (hcs : ft_cs st ≤ 8) (hc : ft_C K' As h R') : ft_Rn K K' pc st0 st As h R' := by
  intro p l e s m args below meth c D ad cA H locs ls hC hR hS hls
  subst hst
  have hok : ∀ v ∈ As, ft_ok v := fun v hv => hS v (List.mem_append_left _ (List.mem_reverse.mpr hv))
  exact va_runS (As := As.map (ft_val ad)) (rest := st.map (ft_val ad)) (Ts := lw_tbl.filter goodWord) (own := K.1.cls) (n := n) ⟨hC.1, hC.2.1, hC.2.2.2.1, hC.2.2.2.2.1, ft_hts hC⟩ (hc l D ad cA) (va_cwS n (ft_hts hC) (by unfold va_wsS; exact ft_goodc hl (ft_goodc hs (ft_goodc hw.1 (ft_good hw.2.1)))) rfl hr.1 hr.2.1 hw.2.2 hr.2.2) ⟨ft_blind, fun U hU hW => ⟨rfl, ft_preU hC hR hok U hU hW⟩⟩ rfl (by rw [List.length_map]; exact hn) hls (by simp) (lv_room (ft_cs_ok hcs)) hd ⟨Nat.zero_le _, Nat.zero_le _⟩
theorem fv_callc {st0 av : List ftV} (hret : K'.2.2.2.1 = some .char ∨ K'.2.2.2.1 = some .byte) (hp : pc + 3 = pc') (hst : ∀ v ∈ st, v ∈ st0) (run : ft_Rn K K' pc st0 st av h R') (k : ∀ z h', ft_in z → R' (some (.inl z)) h' → ft_V K pc' L (.inl z :: st) h' R) : ft_V K pc L st0 h R := by
  intro p l e s m args below meth c D ad cA H locs ls hC hR hL hS hl
  subst hp
  have r0 := run p l e s m args below meth c D ad cA H locs ls hC hR hS hl.1
  have r : va_Run p l e K.2.2.2.2 s m args below meth c H locs 0 0 0 0 (F0 m pc ls (st0.map (ft_val ad))) (st.map (ft_val ad)) (va_Qi (fun r (h' : ftH) => R' (some (.inl r.toInt)) h') (fun h' t => ft_P0 D ad cA h' t) (ft_A ad) (av.map (ft_val ad)).toArray) (ft_A ad) := by
    rcases hret with hret | hret <;> (rw [hret] at r0; exact r0)
  refine va_calli (post := fun r (h' : ftH) => R' (some (.inl r.toInt)) h') (B := fun h' t => ft_P0 D ad cA h' t) (A1 := ft_A ad) (a := (av.map (ft_val ad)).toArray) r hR.2.2.1 (fun q _ hq => hq) (fun q hq => hq) (fun z u t H1 locs1 ht hvm hw hB hz hk hS1 => ?_)
  have t := k z.toInt u (ft_in_of z) hw p l e s m args below meth c D ad cA H1 locs1 ls hC ⟨by rw [← ht]; exact hB.1, hB.2.2.1, hS1, hB.2.2.2⟩ hL (ft_okc (show ft_ok (.inl z.toInt) from ft_in_of z) (fun v hv => hS v (hst v hv))) hl
  simp only [List.map_cons, ft_val, ft_bk] at t
  exact t
end FVS
theorem c_J_cod {h : ftH} {i : Nat} (hi : i < 5) : ft_C kJ_cod [.inr (.inr (333 + i))] h (fun r h' => r = some (.inl 0) ∧ h' = h) :=
  ft_enter (n := 0) rfl (Nat.le_of_ble_eq_true rfl) rfl (fv_compact (by decide +kernel) rfl rfl (fv_if_eq (off := 10) (tgt := 13) (by decide +kernel) rfl rfl (fun c => absurd c (by decide)) (fun _ => fv_aload_n (n := 0) (a := 333 + i) (by decide +kernel) rfl rfl (fv_strC (by decide +kernel) rfl rfl hi (fv_goto (off := 4) (pc' := 14) (by decide +kernel) rfl (fv_breturn (by decide +kernel) rfl (by decide +kernel) ⟨rfl, rfl⟩))))))
theorem c_J_lat {h : ftH} {i : Nat} (hi : i < 5) : ft_C kJ_lat [.inr (.inr (333 + i))] h (fun r h' => r = some (.inl 1) ∧ h' = h) :=
  ft_enter (n := 0) rfl (Nat.le_of_ble_eq_true rfl) rfl (fv_compact (by decide +kernel) rfl rfl (fv_if_eq (off := 14) (tgt := 17) (by decide +kernel) rfl rfl (fun c => absurd c (by decide)) (fun _ => fv_aload_n (n := 0) (a := 333 + i) (by decide +kernel) rfl rfl (fv_strC (by decide +kernel) rfl rfl hi (fv_if_ne (off := 7) (tgt := 17) (by decide +kernel) rfl rfl (fun c => absurd rfl c) (fun _ => fv_iconst (n := 1) (by decide +kernel) rfl rfl (fv_goto (off := 4) (pc' := 18) (by decide +kernel) rfl (fv_zreturn (by decide +kernel) rfl (Or.inr rfl) ⟨rfl, rfl⟩))))))))
theorem c_J_len {h : ftH} {i : Nat} (hi : i < 5) : ft_C kJ_len [.inr (.inr (333 + i))] h (fun r h' => r = some (.inl ((cl i : Nat) : Int)) ∧ h' = h) := by
  refine ft_enter (n := 0) rfl (Nat.le_of_ble_eq_true rfl) rfl (fv_aload_n (n := 0) (a := 333 + i) (by decide +kernel) rfl rfl (fv_strV (by decide +kernel) rfl rfl hi (fv_strL (by decide +kernel) rfl hi (fv_aload_n (n := 0) (a := 333 + i) (by decide +kernel) rfl rfl (fv_callc (K' := kJ_cod) (st := [.inl ((cl i : Nat) : Int)]) (Or.inr rfl) rfl (ft_mm (pre := [.inr (.inr (333 + i))]) rfl) (ft_rnT (K' := kJ_cod) (As := []) (idx := 335) (by decide +kernel) (ft_gt 444 (by decide +kernel) rfl) (ft_gt 445 (by decide +kernel) rfl) (ft_gt 446 (by decide +kernel) rfl) lwJ_cod ⟨rfl, rfl, Nat.le_of_ble_eq_true rfl, Nat.le_of_ble_eq_true rfl⟩ rfl hi rfl rfl (Nat.le_of_ble_eq_true rfl) (c_J_cod hi)) (fun z h1 _ hw => ?_))))))
  obtain ⟨hz, rfl⟩ := hw
  cases hz
  refine fv_ishr (by decide +kernel) rfl (fv_ireturn (by decide +kernel) rfl ⟨?_, rfl⟩)
  rw [(cl_ok i hi).2.2]
theorem c_J_pre {h : ftH} {a b : Int} (ha : 0 ≤ a ∧ a < b) (ia : ft_in a) (ib : ft_in b) (v : Value) (hv : v.category = 1) (l : Launch) (D : va_G) (ad : Nat → Nat) (cA : Nat → ClassId) : Met l kJ_pre.1 (ft_wk kJ_pre) kJ_pre.2.2.2.2 (va_Pc [.int (Int32.ofInt a), .int (Int32.ofInt b), v] (fun U => ft_P0 D ad cA h U ∧ ft_E ad U U.heap ∧ True)) (ft_Q kJ_pre.2.2.2.1 (fun r h' => r = some (.inl a) ∧ h' = h) D ad cA) 0 0 (ft_A ad) := by
  refine Met.ofW (cc := kJ_pre.2.1) (maxL := kJ_pre.2.2.1) (ret := kJ_pre.2.2.2.1) rfl rfl ?_
  intro p e s m args below meth c s₁ B hml hv'
  obtain ⟨rfl, hP, hE, -⟩ := hv'
  rw [lg_entry_eq]
  have hl := lv_entry [.int (Int32.ofInt a), .int (Int32.ofInt b), v] (n := kJ_pre.2.2.1) (by
    have e1 : (Value.int (Int32.ofInt a)).category = 1 := rfl
    have e2 : (Value.int (Int32.ofInt b)).category = 1 := rfl
    show _ ≤ 3
    simp [lg_sl, e1, e2, hv])
  have k : ft_V kJ_pre 0 [some (.inl a), some (.inl b), none] [] h (fun r h' => r = some (.inl a) ∧ h' = h) :=
    fv_iload_n (n := 0) (by decide +kernel) rfl rfl (fv_if_lt (off := 8) (tgt := 9) (by decide +kernel) rfl rfl (fun c => absurd c (by omega)) (fun _ => fv_iload_n (n := 0) (by decide +kernel) rfl rfl (fv_iload_n (n := 1) (by decide +kernel) rfl rfl (fv_icmp_lt (off := 10) (tgt := 16) (by decide +kernel) rfl rfl (fun _ => fv_iload_n (n := 0) (by decide +kernel) rfl rfl (fv_ireturn (by decide +kernel) rfl ⟨rfl, rfl⟩)) (fun c => absurd ha.2 c)))))
  refine k p l e s m _ below meth c D ad cA s.heap [] _ ⟨B.exec, B.bytes, B.returns, hml, findClass_of_methodNamed B.named, fun w hw hg => atoms_spec (ws := ft_wk kJ_pre) B.pre w (List.mem_cons_of_mem _ (List.mem_filter.mpr ⟨hw, hg⟩)), B.notSynchronized, hP.2.1, hE⟩ ⟨hP.1, hP.2.2.1, va_S.rf, hP.2.2.2⟩ (fun v hv => ?_) (fun v hv => by cases hv) ⟨hl.1, hl.2.1, fun q hq => ?_⟩
  · simp only [List.mem_cons, Option.some.injEq, reduceCtorEq, List.not_mem_nil, or_false] at hv
    rcases hv with rfl | rfl
    · exact ia
    · exact ib
  · have hq2 : q = (0, Value.int (Int32.ofInt a)) ∨ q = (1, Value.int (Int32.ofInt b)) := by
      simpa [ft_lv, List.zipIdx, ft_val] using hq
    refine hl.2.2 q ?_
    have e1 : (Value.int (Int32.ofInt a)).category = 1 := rfl
    have e2 : (Value.int (Int32.ofInt b)).category = 1 := rfl
    rcases hq2 with rfl | rfl
    · simp [lv_args]
    · simp [lv_args, e1]
theorem c_J_chk {h : ftH} {a b : Int} (ha : 0 ≤ a ∧ a < b) : ft_C kJ_chk [.inl a, .inl b] h (fun r h' => r = none ∧ h' = h) := by
  refine ft_enter (n := 0) rfl (Nat.le_of_ble_eq_true rfl) rfl (fv_iload_n (n := 0) (by decide +kernel) rfl rfl (fv_iload_n (n := 1) (by decide +kernel) rfl rfl ?_))
  have t : ft_V kJ_chk 8 [some (.inl a), some (.inl b)] [.inl a] h (fun r h' => r = none ∧ h' = h) := fv_pop (by decide +kernel) rfl rfl (fv_return (by decide +kernel) rfl ⟨rfl, rfl⟩)
  intro p l e s m args below meth c D ad cA H locs ls hC hR hL hS hl
  obtain ⟨v, hv, hZ⟩ := (ft_es hC).2.2.2
  have ib : ft_in b := ft_okh hS
  have ia : ft_in a := ft_okh (ft_okt hS)
  refine va_gets hC.1 hC.2.1 hZ hR.2.2.1 hC.2.2.2.2.1 (ft_hts hC _ (ft_gf jw_form)) (fun x hx => hx) (pc := 2) (by decide +kernel) ?_
  have run : va_Run p l e kJ_chk.2.2.2.2 s m args below meth c H locs 0 0 0 0 (F0 m 5 ls [v, .int (Int32.ofInt b), .int (Int32.ofInt a)]) [] (va_Qi (fun r (h' : ftH) => (some (.inl r.toInt) : Option ftV) = some (.inl a) ∧ h' = h) (fun h' t => ft_P0 D ad cA h' t) (ft_A ad) #[.int (Int32.ofInt a), .int (Int32.ofInt b), v]) (ft_A ad) :=
    va_runS (As := [.int (Int32.ofInt a), .int (Int32.ofInt b), v]) (rest := []) (Ts := lw_tbl.filter goodWord) (own := kJ_chk.1.cls) (index := 1059) (n := 3) ⟨hC.1, hC.2.1, hC.2.2.2.1, hC.2.2.2.2.1, ft_hts hC⟩ (c_J_pre (h := h) ha ia ib v hv l D ad cA) (va_cwS 3 (ft_hts hC) (by unfold va_wsS; exact ft_goodc (ft_gt 466 (by decide +kernel) rfl) (ft_goodc (ft_gt 467 (by decide +kernel) rfl) (ft_goodc lwJ_pre.1 (ft_good lwJ_pre.2.1)))) rfl rfl rfl lwJ_pre.2.2 ⟨Nat.le_of_ble_eq_true rfl, Nat.le_of_ble_eq_true rfl⟩) ⟨ft_blind, fun U hU hW => ⟨rfl, ft_preU hC hR trivial U hU hW⟩⟩ rfl rfl hl.1 rfl (Nat.le_of_ble_eq_true rfl) (show decode kJ_chk.2.1 5 = .ok (.invokestatic 1059, 3) by decide +kernel) ⟨Nat.zero_le _, Nat.zero_le _⟩
  refine va_calli (post := fun r (h' : ftH) => (some (.inl r.toInt) : Option ftV) = some (.inl a) ∧ h' = h) (B := fun h' t => ft_P0 D ad cA h' t) (A1 := ft_A ad) (a := #[.int (Int32.ofInt a), .int (Int32.ofInt b), v]) run hR.2.2.1 (fun q _ hq => hq) (fun q hq => hq) (fun z u t1 H1 locs1 ht hvm hw hB hz hk hS1 => ?_)
  obtain ⟨hz1, rfl⟩ := hw
  have hza : z.toInt = a := by simpa using hz1
  have ez : z = Int32.ofInt a := by rw [← hza, ft_bk]
  rw [ez]
  exact t p l e s m args below meth c D ad cA H1 locs1 ls hC ⟨by rw [← ht]; exact hB.1, hB.2.2.1, hS1, hB.2.2.2⟩ hL (ft_okc (show ft_ok (.inl a) from ia) (fun v hv => by cases hv)) hl
theorem c_J_l1 {h : ftH} {i j : Nat} (hi : i < 5) (hj : j < cl i) : ft_C kJ_l1 [.inr (.inr (338 + i)), .inl (j : Int)] h (fun r h' => r = some (.inl (ch i j)) ∧ h' = h) := by
  have hc := ch_ok i hi j hj
  refine ft_enter (n := 0) rfl (Nat.le_of_ble_eq_true rfl) rfl (fv_iload_n (n := 1) (by decide +kernel) rfl rfl (fv_aload_n (n := 0) (a := 338 + i) (by decide +kernel) rfl rfl (fv_strL (by decide +kernel) rfl hi (fv_callv (K' := kJ_chk) (st := []) rfl rfl (ft_mm (pre := [.inl ((cl i : Nat) : Int), .inl (j : Int)]) rfl) (ft_rnO (K' := kJ_chk) (As := [.inl (j : Int), .inl ((cl i : Nat) : Int)]) (idx := 9) (by decide +kernel) (ft_gt 461 (by decide +kernel) rfl) (ft_gt 462 (by decide +kernel) rfl) lwJ_chk ⟨rfl, rfl, Nat.le_of_ble_eq_true rfl, Nat.le_of_ble_eq_true rfl⟩ rfl rfl (Nat.le_of_ble_eq_true rfl) (c_J_chk ⟨by omega, by omega⟩)) (fun h1 hw => ?_)))))
  obtain ⟨-, rfl⟩ := hw
  refine fv_aload_n (n := 0) (a := 338 + i) (by decide +kernel) rfl rfl (fv_iload_n (n := 1) (by decide +kernel) rfl rfl (fv_strB (by decide +kernel) rfl hi hj (fv_sipush (n := 255) (by decide +kernel) rfl rfl (fv_iand (by decide +kernel) rfl ?_))))
  rw [hc.2.1]
  exact fv_i2c (by decide +kernel) rfl hc.2.2.1 (fv_creturn (by decide +kernel) rfl hc.2.2.2 ⟨rfl, rfl⟩)
theorem c_J_cha {h : ftH} {i j : Nat} (hi : i < 5) (hj : j < cl i) : ft_C kJ_cha [.inr (.inr (333 + i)), .inl (j : Int)] h (fun r h' => r = some (.inl (ch i j)) ∧ h' = h) := by
  have hc := ch_ok i hi j hj
  refine ft_enter (n := 0) rfl (Nat.le_of_ble_eq_true rfl) rfl (fv_aload_n (n := 0) (a := 333 + i) (by decide +kernel) rfl rfl (fv_calli (K' := kJ_lat) (st := []) (Or.inr rfl) rfl (ft_mm (pre := [.inr (.inr (333 + i))]) rfl) (ft_rnT (K' := kJ_lat) (As := []) (idx := 492) (by decide +kernel) (ft_gt 454 (by decide +kernel) rfl) (ft_gt 455 (by decide +kernel) rfl) (ft_gt 456 (by decide +kernel) rfl) lwJ_lat ⟨rfl, rfl, Nat.le_of_ble_eq_true rfl, Nat.le_of_ble_eq_true rfl⟩ rfl hi rfl rfl (Nat.le_of_ble_eq_true rfl) (c_J_lat hi)) (fun z h1 _ hw => ?_)))
  obtain ⟨hz, rfl⟩ := hw
  cases hz
  refine fv_if_eq (off := 12) (tgt := 16) (by decide +kernel) rfl rfl (fun c => absurd c (by decide)) (fun _ => fv_aload_n (n := 0) (a := 333 + i) (by decide +kernel) rfl rfl (fv_strV (by decide +kernel) rfl rfl hi (fv_iload_n (n := 1) (by decide +kernel) rfl rfl (fv_callc (K' := kJ_l1) (st := []) (Or.inl rfl) rfl (ft_mm (pre := [.inl (j : Int), .inr (.inr (338 + i))]) rfl) (ft_rnO (K' := kJ_l1) (As := [.inr (.inr (338 + i)), .inl (j : Int)]) (idx := 495) (by decide +kernel) (ft_gt 458 (by decide +kernel) rfl) (ft_gt 459 (by decide +kernel) rfl) lwJ_l1 ⟨rfl, rfl, Nat.le_of_ble_eq_true rfl, Nat.le_of_ble_eq_true rfl⟩ rfl rfl (Nat.le_of_ble_eq_true rfl) (c_J_l1 hi hj)) (fun z h1 _ hw => ?_)))))
  obtain ⟨hz, rfl⟩ := hw
  cases hz
  exact fv_creturn (by decide +kernel) rfl hc.2.2.2 ⟨rfl, rfl⟩
