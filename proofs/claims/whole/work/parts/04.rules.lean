/-! THE RULES: one an instruction, each out of the kit's row -/
section FVR
variable {K : ftM} {pc pc' : Nat} {L L' : List (Option ftV)} {st : List ftV} {h : ftH} {R : Option ftV → ftH → Prop}
theorem ft_okh {v : ftV} {st : List ftV} (h : ∀ u ∈ v :: st, ft_ok u) : ft_ok v := h v List.mem_cons_self
theorem ft_okt {v : ftV} {st : List ftV} (h : ∀ u ∈ v :: st, ft_ok u) : ∀ u ∈ st, ft_ok u := fun u hu => h u (List.mem_cons_of_mem _ hu)
theorem ft_okc {v : ftV} {st : List ftV} (h1 : ft_ok v) (h2 : ∀ u ∈ st, ft_ok u) : ∀ u ∈ v :: st, ft_ok u := fun u hu => by
  rcases List.mem_cons.mp hu with rfl | hu
  · exact h1
  · exact h2 u hu
theorem ft_lget {ad : Nat → Nat} {ls : Array Slot} {nL : Nat} (hl : lv_has ls nL (ft_lv ad L)) {i : Nat} {v : ftV} (hi : L[i]? = some (some v)) : ls[i]? = some (.val (ft_val ad v)) := hl.2.2 (i, ft_val ad v) (ft_lv_mem.mpr ⟨v, hi, rfl⟩)
theorem ft_eqI {x y : Int} (hx : ft_in x) (hy : ft_in y) : Int32.ofInt x = Int32.ofInt y ↔ x = y := by rw [← Int32.toInt_inj, ft_toI hx, ft_toI hy]
theorem ft_ltI {x y : Int} (hx : ft_in x) (hy : ft_in y) : Int32.ofInt x < Int32.ofInt y ↔ x < y := by rw [Int32.lt_iff_toInt_lt, ft_toI hx, ft_toI hy]
theorem ft_leI {x y : Int} (hx : ft_in x) (hy : ft_in y) : Int32.ofInt x ≤ Int32.ofInt y ↔ x ≤ y := by rw [Int32.le_iff_toInt_le, ft_toI hx, ft_toI hy]
theorem ft_eqL {x y : Int} (hx : ft_inL x) (hy : ft_inL y) : Int64.ofInt x = Int64.ofInt y ↔ x = y := by rw [← Int64.toInt_inj, ft_toL hx, ft_toL hy]
theorem ft_ltL {x y : Int} (hx : ft_inL x) (hy : ft_inL y) : Int64.ofInt x < Int64.ofInt y ↔ x < y := by rw [Int64.lt_iff_toInt_lt, ft_toL hx, ft_toL hy]
theorem ft_leL {x y : Int} (hx : ft_inL x) (hy : ft_inL y) : Int64.ofInt x ≤ Int64.ofInt y ↔ x ≤ y := by rw [Int64.le_iff_toInt_le, ft_toL hx, ft_toL hy]
theorem ft_in0 : ft_in 0 := ⟨by decide, by decide⟩
theorem ft_0 : (0 : Int32) = Int32.ofInt 0 := rfl
def ft_inB (n : Int) : Bool := decide (-2147483648 ≤ n) && decide (n < 2147483648)
theorem ft_inB_ok {n : Int} (h : ft_inB n = true) : ft_in n := by
  unfold ft_inB at h
  rw [Bool.and_eq_true, decide_eq_true_eq, decide_eq_true_eq] at h
  exact h

theorem fv_iconst {n : Int} (hd : decode K.2.1 pc = .ok (.iconst n, 1)) (hp : pc + 1 = pc') (hn : ft_inB n = true) (k : ft_V K pc' L (.inl n :: st) h R) : ft_V K pc L st h R := by
  intro p l e s m args below meth c D ad cA H locs ls hC hR hL hS hl
  subst hp
  exact lv_iconst hC.1 hC.2.1 hd rfl (k p l e s m args below meth c D ad cA H locs ls hC hR hL (ft_okc (ft_inB_ok hn) hS) hl)
theorem ft_bip {n : Int} (h1 : -128 ≤ n) (h2 : n < 128) : (Int8.ofInt n).toInt32 = Int32.ofInt n := by
  rw [← Int32.toInt_inj, Int8.toInt_toInt32, Int8.toInt_ofInt_of_le (by simpa using h1) (by simpa using h2), ft_toI ⟨by omega, by omega⟩]
theorem ft_sip {n : Int} (h1 : -32768 ≤ n) (h2 : n < 32768) : (Int16.ofInt n).toInt32 = Int32.ofInt n := by
  rw [← Int32.toInt_inj, Int16.toInt_toInt32, Int16.toInt_ofInt_of_le (by simpa using h1) (by simpa using h2), ft_toI ⟨by omega, by omega⟩]
def ft_b8 (n : Int) : Bool := decide (-128 ≤ n) && decide (n < 128)
def ft_b16 (n : Int) : Bool := decide (-32768 ≤ n) && decide (n < 32768)
theorem fv_bipush {n : Int} (hd : decode K.2.1 pc = .ok (.bipush n, 2)) (hp : pc + 2 = pc') (hn : ft_b8 n = true) (k : ft_V K pc' L (.inl n :: st) h R) : ft_V K pc L st h R := by
  intro p l e s m args below meth c D ad cA H locs ls hC hR hL hS hl
  subst hp
  unfold ft_b8 at hn
  rw [Bool.and_eq_true, decide_eq_true_eq, decide_eq_true_eq] at hn
  exact lv_bipush hC.1 hC.2.1 hd (ft_bip hn.1 hn.2) (k p l e s m args below meth c D ad cA H locs ls hC hR hL (ft_okc (show ft_in n from ⟨by omega, by omega⟩) hS) hl)
theorem fv_sipush {n : Int} (hd : decode K.2.1 pc = .ok (.sipush n, 3)) (hp : pc + 3 = pc') (hn : ft_b16 n = true) (k : ft_V K pc' L (.inl n :: st) h R) : ft_V K pc L st h R := by
  intro p l e s m args below meth c D ad cA H locs ls hC hR hL hS hl
  subst hp
  unfold ft_b16 at hn
  rw [Bool.and_eq_true, decide_eq_true_eq, decide_eq_true_eq] at hn
  exact lv_sipush hC.1 hC.2.1 hd (ft_sip hn.1 hn.2) (k p l e s m args below meth c D ad cA H locs ls hC hR hL (ft_okc (show ft_in n from ⟨by omega, by omega⟩) hS) hl)
theorem fv_lconst {n : Fin 2} {z : Int} (hd : decode K.2.1 pc = .ok (.lconst n, 1)) (hp : pc + 1 = pc') (hz : ((n : Nat) : Int) = z) (k : ft_V K pc' L (.inr (.inl z) :: st) h R) : ft_V K pc L st h R := by
  intro p l e s m args below meth c D ad cA H locs ls hC hR hL hS hl
  subst hp
  have hz' : ft_inL z := by have := n.2; exact ⟨by omega, by omega⟩
  exact lv_lconst hC.1 hC.2.1 hd (by rw [← hz]; rfl) (k p l e s m args below meth c D ad cA H locs ls hC hR hL (ft_okc (show ft_ok (.inr (.inl z)) from hz') hS) hl)
/-- a word of the tables -/
def ft_g (w : Cond) : Prop := w ∈ lw_tbl ∧ goodWord w = true
theorem ft_gt {w : Cond} (i : Nat) (h : tables_1[i]? = some w) (hg : goodWord w = true) : ft_g w := ⟨List.mem_append_right _ (List.mem_of_getElem? h), hg⟩
theorem ft_gs {w : Cond} (i : Nat) (h : (k2_sels lw_privs)[i]? = some w) (hg : goodWord w = true) : ft_g w := ⟨List.mem_append_left _ (List.mem_of_getElem? h), hg⟩
theorem fv_ldc {idx : Nat} {v : Int32} {z : Int} (hd : decode K.2.1 pc = .ok (.ldc idx, 2)) (hp : pc + 2 = pc') (hw : ft_g (.constant K.1.cls idx v)) (hz : v.toInt = z) (k : ft_V K pc' L (.inl z :: st) h R) : ft_V K pc L st h R := by
  intro p l e s m args below meth c D ad cA H locs ls hC hR hL hS hl
  subst hp
  subst hz
  have t := k p l e s m args below meth c D ad cA H locs ls hC hR hL (ft_okc (show ft_ok (.inl v.toInt) from ft_in_of v) hS) hl
  simp only [List.map_cons, ft_val, ft_bk] at t
  exact lv_ldc hC.1 hC.2.1 hC.2.2.2.2.1 (hC.2.2.2.2.2.1 _ hw.1 hw.2) hd t
theorem fv_ldc2 {idx : Nat} {v : Int64} {z : Int} (hd : decode K.2.1 pc = .ok (.ldc2_w idx, 3)) (hp : pc + 3 = pc') (hw : ft_g (.constantLong K.1.cls idx v)) (hz : v.toInt = z) (k : ft_V K pc' L (.inr (.inl z) :: st) h R) : ft_V K pc L st h R := by
  intro p l e s m args below meth c D ad cA H locs ls hC hR hL hS hl
  subst hp
  subst hz
  have t := k p l e s m args below meth c D ad cA H locs ls hC hR hL (ft_okc (show ft_ok (.inr (.inl v.toInt)) from ft_inL_of v) hS) hl
  simp only [List.map_cons, ft_val, ft_bkL] at t
  exact lv_ldc2 hC.1 hC.2.1 hC.2.2.2.2.1 (hC.2.2.2.2.2.1 _ hw.1 hw.2) hd t
theorem fv_iload_n {n : Fin 4} {x : Int} (hd : decode K.2.1 pc = .ok (.iload_n n, 1)) (hp : pc + 1 = pc') (hi : L[(n : Nat)]? = some (some (.inl x))) (k : ft_V K pc' L (.inl x :: st) h R) : ft_V K pc L st h R := by
  intro p l e s m args below meth c D ad cA H locs ls hC hR hL hS hl
  subst hp
  exact lv_iload_n hC.1 hC.2.1 hd rfl (ft_lget hl hi) (k p l e s m args below meth c D ad cA H locs ls hC hR hL (ft_okc (hL _ (List.mem_of_getElem? hi)) hS) hl)
theorem fv_iload {n : Nat} {x : Int} (hd : decode K.2.1 pc = .ok (.iload n, 2)) (hp : pc + 2 = pc') (hi : L[n]? = some (some (.inl x))) (k : ft_V K pc' L (.inl x :: st) h R) : ft_V K pc L st h R := by
  intro p l e s m args below meth c D ad cA H locs ls hC hR hL hS hl
  subst hp
  exact lv_iload hC.1 hC.2.1 hd (ft_lget hl hi) (k p l e s m args below meth c D ad cA H locs ls hC hR hL (ft_okc (hL _ (List.mem_of_getElem? hi)) hS) hl)
theorem fv_lload_n {n : Fin 4} {x : Int} (hd : decode K.2.1 pc = .ok (.lload_n n, 1)) (hp : pc + 1 = pc') (hi : L[(n : Nat)]? = some (some (.inr (.inl x)))) (k : ft_V K pc' L (.inr (.inl x) :: st) h R) : ft_V K pc L st h R := by
  intro p l e s m args below meth c D ad cA H locs ls hC hR hL hS hl
  subst hp
  exact lv_lload_n hC.1 hC.2.1 hd rfl (ft_lget hl hi) (k p l e s m args below meth c D ad cA H locs ls hC hR hL (ft_okc (hL _ (List.mem_of_getElem? hi)) hS) hl)
theorem fv_lload {n : Nat} {x : Int} (hd : decode K.2.1 pc = .ok (.lload n, 2)) (hp : pc + 2 = pc') (hi : L[n]? = some (some (.inr (.inl x)))) (k : ft_V K pc' L (.inr (.inl x) :: st) h R) : ft_V K pc L st h R := by
  intro p l e s m args below meth c D ad cA H locs ls hC hR hL hS hl
  subst hp
  exact lv_lload hC.1 hC.2.1 hd (ft_lget hl hi) (k p l e s m args below meth c D ad cA H locs ls hC hR hL (ft_okc (hL _ (List.mem_of_getElem? hi)) hS) hl)
theorem fv_aload_n {n : Fin 4} {a : Nat} (hd : decode K.2.1 pc = .ok (.aload_n n, 1)) (hp : pc + 1 = pc') (hi : L[(n : Nat)]? = some (some (.inr (.inr a)))) (k : ft_V K pc' L (.inr (.inr a) :: st) h R) : ft_V K pc L st h R := by
  intro p l e s m args below meth c D ad cA H locs ls hC hR hL hS hl
  subst hp
  exact lv_aload_n hC.1 hC.2.1 hd rfl (ft_lget hl hi) (k p l e s m args below meth c D ad cA H locs ls hC hR hL (ft_okc (hL _ (List.mem_of_getElem? hi)) hS) hl)
theorem fv_aload {n : Nat} {a : Nat} (hd : decode K.2.1 pc = .ok (.aload n, 2)) (hp : pc + 2 = pc') (hi : L[n]? = some (some (.inr (.inr a)))) (k : ft_V K pc' L (.inr (.inr a) :: st) h R) : ft_V K pc L st h R := by
  intro p l e s m args below meth c D ad cA H locs ls hC hR hL hS hl
  subst hp
  exact lv_aload hC.1 hC.2.1 hd (ft_lget hl hi) (k p l e s m args below meth c D ad cA H locs ls hC hR hL (ft_okc (hL _ (List.mem_of_getElem? hi)) hS) hl)
theorem fv_istore_n {n : Fin 4} {x : Int} (hd : decode K.2.1 pc = .ok (.istore_n n, 1)) (hp : pc + 1 = pc') (hn : (n : Nat) < K.2.2.1) (hL2 : ft_st1 L (n : Nat) (.inl x) = L') (k : ft_V K pc' L' st h R) : ft_V K pc L (.inl x :: st) h R := by
  intro p l e s m args below meth c D ad cA H locs ls hC hR hL hS hl
  subst hp
  subst hL2
  exact lv_istore_n hC.1 hC.2.1 hd rfl hl hn rfl (fun ls' hl' => k p l e s m args below meth c D ad cA H locs ls' hC hR (fun v hv => by
    rcases ft_st1_mem hv with q | rfl
    · exact hL v q
    · exact ft_okh hS) (ft_okt hS) (ft_st1_has hl'))
theorem fv_istore {n : Nat} {x : Int} (hd : decode K.2.1 pc = .ok (.istore n, 2)) (hp : pc + 2 = pc') (hn : n < K.2.2.1) (hL2 : ft_st1 L n (.inl x) = L') (k : ft_V K pc' L' st h R) : ft_V K pc L (.inl x :: st) h R := by
  intro p l e s m args below meth c D ad cA H locs ls hC hR hL hS hl
  subst hp
  subst hL2
  exact lv_istore hC.1 hC.2.1 hd hl hn rfl (fun ls' hl' => k p l e s m args below meth c D ad cA H locs ls' hC hR (fun v hv => by
    rcases ft_st1_mem hv with q | rfl
    · exact hL v q
    · exact ft_okh hS) (ft_okt hS) (ft_st1_has hl'))
theorem fv_lstore_n {n : Fin 4} {x : Int} (hd : decode K.2.1 pc = .ok (.lstore_n n, 1)) (hp : pc + 1 = pc') (hn : (n : Nat) + 1 < K.2.2.1) (hL2 : ft_st2 L (n : Nat) (.inr (.inl x)) = L') (k : ft_V K pc' L' st h R) : ft_V K pc L (.inr (.inl x) :: st) h R := by
  intro p l e s m args below meth c D ad cA H locs ls hC hR hL hS hl
  subst hp
  subst hL2
  exact lv_lstore_n hC.1 hC.2.1 hd rfl hl hn rfl (fun ls' hl' => k p l e s m args below meth c D ad cA H locs ls' hC hR (fun v hv => by
    rcases ft_st2_mem hv with q | rfl
    · exact hL v q
    · exact ft_okh hS) (ft_okt hS) (ft_st2_has hl'))
theorem fv_lstore {n : Nat} {x : Int} (hd : decode K.2.1 pc = .ok (.lstore n, 2)) (hp : pc + 2 = pc') (hn : n + 1 < K.2.2.1) (hL2 : ft_st2 L n (.inr (.inl x)) = L') (k : ft_V K pc' L' st h R) : ft_V K pc L (.inr (.inl x) :: st) h R := by
  intro p l e s m args below meth c D ad cA H locs ls hC hR hL hS hl
  subst hp
  subst hL2
  exact lv_lstore hC.1 hC.2.1 hd hl hn rfl (fun ls' hl' => k p l e s m args below meth c D ad cA H locs ls' hC hR (fun v hv => by
    rcases ft_st2_mem hv with q | rfl
    · exact hL v q
    · exact ft_okh hS) (ft_okt hS) (ft_st2_has hl'))
theorem fv_astore_n {n : Fin 4} {x : Nat} (hd : decode K.2.1 pc = .ok (.astore_n n, 1)) (hp : pc + 1 = pc') (hn : (n : Nat) < K.2.2.1) (hL2 : ft_st1 L (n : Nat) (.inr (.inr x)) = L') (k : ft_V K pc' L' st h R) : ft_V K pc L (.inr (.inr x) :: st) h R := by
  intro p l e s m args below meth c D ad cA H locs ls hC hR hL hS hl
  subst hp
  subst hL2
  exact lv_astore_n hC.1 hC.2.1 hd rfl hl hn rfl (fun ls' hl' => k p l e s m args below meth c D ad cA H locs ls' hC hR (fun v hv => by
    rcases ft_st1_mem hv with q | rfl
    · exact hL v q
    · exact ft_okh hS) (ft_okt hS) (ft_st1_has hl'))
theorem fv_astore {n : Nat} {x : Nat} (hd : decode K.2.1 pc = .ok (.astore n, 2)) (hp : pc + 2 = pc') (hn : n < K.2.2.1) (hL2 : ft_st1 L n (.inr (.inr x)) = L') (k : ft_V K pc' L' st h R) : ft_V K pc L (.inr (.inr x) :: st) h R := by
  intro p l e s m args below meth c D ad cA H locs ls hC hR hL hS hl
  subst hp
  subst hL2
  exact lv_astore hC.1 hC.2.1 hd hl hn rfl (fun ls' hl' => k p l e s m args below meth c D ad cA H locs ls' hC hR (fun v hv => by
    rcases ft_st1_mem hv with q | rfl
    · exact hL v q
    · exact ft_okh hS) (ft_okt hS) (ft_st1_has hl'))
def ft_add (x y : Int) : Int := (Int32.ofInt x + Int32.ofInt y).toInt
theorem fv_iinc {i : Nat} {n x : Int} (hd : decode K.2.1 pc = .ok (.iinc i n, 3)) (hp : pc + 3 = pc') (hi : L[i]? = some (some (.inl x))) (hn : i < K.2.2.1) (hL2 : ft_st1 L i (.inl (ft_add x n)) = L') (k : ft_V K pc' L' st h R) : ft_V K pc L st h R := by
  intro p l e s m args below meth c D ad cA H locs ls hC hR hL hS hl
  subst hp
  subst hL2
  obtain ⟨j, hj⟩ := List.getElem?_of_mem (ft_lv_mem.mpr ⟨_, hi, rfl⟩ : (i, ft_val ad (.inl x)) ∈ ft_lv ad L)
  have e9 : Int32.ofInt (ft_add x n) = Int32.ofInt x + Int32.ofInt n := ft_bk _
  exact lv_iinc hC.1 hC.2.1 hd hl hj e9.symm hn rfl (fun ls' hl' => k p l e s m args below meth c D ad cA H locs ls' hC hR (fun v hv => by
    rcases ft_st1_mem hv with q | rfl
    · exact hL v q
    · exact ft_in_of _) hS (ft_st1_has hl'))
theorem fv_iadd {x y : Int} (hd : decode K.2.1 pc = .ok (.iadd, 1)) (hp : pc + 1 = pc') (k : ft_V K pc' L (.inl (ft_add x y) :: st) h R) : ft_V K pc L (.inl y :: .inl x :: st) h R := by
  intro p l e s m args below meth c D ad cA H locs ls hC hR hL hS hl
  subst hp
  have t := k p l e s m args below meth c D ad cA H locs ls hC hR hL (ft_okc (show ft_ok (.inl (ft_add x y)) from ft_in_of _) (ft_okt (ft_okt hS))) hl
  simp only [List.map_cons, ft_val, ft_add, ft_bk] at t
  exact lv_iadd hC.1 hC.2.1 hd t
def ft_sub (x y : Int) : Int := (let x := Int32.ofInt x; let y := Int32.ofInt y; x - y).toInt
theorem fv_isub {x y : Int} (hd : decode K.2.1 pc = .ok (.isub, 1)) (hp : pc + 1 = pc') (k : ft_V K pc' L (.inl (ft_sub x y) :: st) h R) : ft_V K pc L (.inl y :: .inl x :: st) h R := by
  intro p l e s m args below meth c D ad cA H locs ls hC hR hL hS hl
  subst hp
  have t := k p l e s m args below meth c D ad cA H locs ls hC hR hL (ft_okc (show ft_ok (.inl (ft_sub x y)) from ft_in_of _) (ft_okt (ft_okt hS))) hl
  simp only [List.map_cons, ft_val, ft_sub, ft_bk] at t
  exact lv_isub hC.1 hC.2.1 hd t
def ft_mul (x y : Int) : Int := (let x := Int32.ofInt x; let y := Int32.ofInt y; x * y).toInt
theorem fv_imul {x y : Int} (hd : decode K.2.1 pc = .ok (.imul, 1)) (hp : pc + 1 = pc') (k : ft_V K pc' L (.inl (ft_mul x y) :: st) h R) : ft_V K pc L (.inl y :: .inl x :: st) h R := by
  intro p l e s m args below meth c D ad cA H locs ls hC hR hL hS hl
  subst hp
  have t := k p l e s m args below meth c D ad cA H locs ls hC hR hL (ft_okc (show ft_ok (.inl (ft_mul x y)) from ft_in_of _) (ft_okt (ft_okt hS))) hl
  simp only [List.map_cons, ft_val, ft_mul, ft_bk] at t
  exact lv_imul hC.1 hC.2.1 hd t
def ft_and (x y : Int) : Int := (let x := Int32.ofInt x; let y := Int32.ofInt y; x &&& y).toInt
theorem fv_iand {x y : Int} (hd : decode K.2.1 pc = .ok (.iand, 1)) (hp : pc + 1 = pc') (k : ft_V K pc' L (.inl (ft_and x y) :: st) h R) : ft_V K pc L (.inl y :: .inl x :: st) h R := by
  intro p l e s m args below meth c D ad cA H locs ls hC hR hL hS hl
  subst hp
  have t := k p l e s m args below meth c D ad cA H locs ls hC hR hL (ft_okc (show ft_ok (.inl (ft_and x y)) from ft_in_of _) (ft_okt (ft_okt hS))) hl
  simp only [List.map_cons, ft_val, ft_and, ft_bk] at t
  exact lv_iand hC.1 hC.2.1 hd t
def ft_or (x y : Int) : Int := (let x := Int32.ofInt x; let y := Int32.ofInt y; x ||| y).toInt
theorem fv_ior {x y : Int} (hd : decode K.2.1 pc = .ok (.ior, 1)) (hp : pc + 1 = pc') (k : ft_V K pc' L (.inl (ft_or x y) :: st) h R) : ft_V K pc L (.inl y :: .inl x :: st) h R := by
  intro p l e s m args below meth c D ad cA H locs ls hC hR hL hS hl
  subst hp
  have t := k p l e s m args below meth c D ad cA H locs ls hC hR hL (ft_okc (show ft_ok (.inl (ft_or x y)) from ft_in_of _) (ft_okt (ft_okt hS))) hl
  simp only [List.map_cons, ft_val, ft_or, ft_bk] at t
  exact lv_ior hC.1 hC.2.1 hd t
def ft_xor (x y : Int) : Int := (let x := Int32.ofInt x; let y := Int32.ofInt y; x ^^^ y).toInt
theorem fv_ixor {x y : Int} (hd : decode K.2.1 pc = .ok (.ixor, 1)) (hp : pc + 1 = pc') (k : ft_V K pc' L (.inl (ft_xor x y) :: st) h R) : ft_V K pc L (.inl y :: .inl x :: st) h R := by
  intro p l e s m args below meth c D ad cA H locs ls hC hR hL hS hl
  subst hp
  have t := k p l e s m args below meth c D ad cA H locs ls hC hR hL (ft_okc (show ft_ok (.inl (ft_xor x y)) from ft_in_of _) (ft_okt (ft_okt hS))) hl
  simp only [List.map_cons, ft_val, ft_xor, ft_bk] at t
  exact lv_ixor hC.1 hC.2.1 hd t
def ft_shl (x y : Int) : Int := (let x := Int32.ofInt x; let y := Int32.ofInt y; x <<< (y &&& 31)).toInt
theorem fv_ishl {x y : Int} (hd : decode K.2.1 pc = .ok (.ishl, 1)) (hp : pc + 1 = pc') (k : ft_V K pc' L (.inl (ft_shl x y) :: st) h R) : ft_V K pc L (.inl y :: .inl x :: st) h R := by
  intro p l e s m args below meth c D ad cA H locs ls hC hR hL hS hl
  subst hp
  have t := k p l e s m args below meth c D ad cA H locs ls hC hR hL (ft_okc (show ft_ok (.inl (ft_shl x y)) from ft_in_of _) (ft_okt (ft_okt hS))) hl
  simp only [List.map_cons, ft_val, ft_shl, ft_bk] at t
  exact lv_ishl hC.1 hC.2.1 hd t
def ft_shr (x y : Int) : Int := (let x := Int32.ofInt x; let y := Int32.ofInt y; x >>> (y &&& 31)).toInt
theorem fv_ishr {x y : Int} (hd : decode K.2.1 pc = .ok (.ishr, 1)) (hp : pc + 1 = pc') (k : ft_V K pc' L (.inl (ft_shr x y) :: st) h R) : ft_V K pc L (.inl y :: .inl x :: st) h R := by
  intro p l e s m args below meth c D ad cA H locs ls hC hR hL hS hl
  subst hp
  have t := k p l e s m args below meth c D ad cA H locs ls hC hR hL (ft_okc (show ft_ok (.inl (ft_shr x y)) from ft_in_of _) (ft_okt (ft_okt hS))) hl
  simp only [List.map_cons, ft_val, ft_shr, ft_bk] at t
  exact lv_ishr hC.1 hC.2.1 hd t
def ft_div (x y : Int) : Int := (let x := Int32.ofInt x; let y := Int32.ofInt y; x / y).toInt
theorem fv_idiv {x y : Int} (hd : decode K.2.1 pc = .ok (.idiv, 1)) (hp : pc + 1 = pc') (hne : ¬ y = 0) (k : ft_V K pc' L (.inl (ft_div x y) :: st) h R) : ft_V K pc L (.inl y :: .inl x :: st) h R := by
  intro p l e s m args below meth c D ad cA H locs ls hC hR hL hS hl
  subst hp
  have t := k p l e s m args below meth c D ad cA H locs ls hC hR hL (ft_okc (show ft_ok (.inl (ft_div x y)) from ft_in_of _) (ft_okt (ft_okt hS))) hl
  simp only [List.map_cons, ft_val, ft_div, ft_bk] at t
  exact lv_idiv hC.1 hC.2.1 hd (fun q => hne ((ft_eqI (ft_okh hS) ft_in0).mp q)) t
def ft_rem (x y : Int) : Int := (let x := Int32.ofInt x; let y := Int32.ofInt y; x - x / y * y).toInt
theorem fv_irem {x y : Int} (hd : decode K.2.1 pc = .ok (.irem, 1)) (hp : pc + 1 = pc') (hne : ¬ y = 0) (k : ft_V K pc' L (.inl (ft_rem x y) :: st) h R) : ft_V K pc L (.inl y :: .inl x :: st) h R := by
  intro p l e s m args below meth c D ad cA H locs ls hC hR hL hS hl
  subst hp
  have t := k p l e s m args below meth c D ad cA H locs ls hC hR hL (ft_okc (show ft_ok (.inl (ft_rem x y)) from ft_in_of _) (ft_okt (ft_okt hS))) hl
  simp only [List.map_cons, ft_val, ft_rem, ft_bk] at t
  exact lv_irem hC.1 hC.2.1 hd (fun q => hne ((ft_eqI (ft_okh hS) ft_in0).mp q)) t
def ft_addL (x y : Int) : Int := (let x := Int64.ofInt x; let y := Int64.ofInt y; x + y).toInt
theorem fv_ladd {x y : Int} (hd : decode K.2.1 pc = .ok (.ladd, 1)) (hp : pc + 1 = pc') (k : ft_V K pc' L (.inr (.inl (ft_addL x y)) :: st) h R) : ft_V K pc L (.inr (.inl y) :: .inr (.inl x) :: st) h R := by
  intro p l e s m args below meth c D ad cA H locs ls hC hR hL hS hl
  subst hp
  have t := k p l e s m args below meth c D ad cA H locs ls hC hR hL (ft_okc (show ft_ok (.inr (.inl (ft_addL x y))) from ft_inL_of _) (ft_okt (ft_okt hS))) hl
  simp only [List.map_cons, ft_val, ft_addL, ft_bkL] at t
  exact lv_ladd hC.1 hC.2.1 hd t
def ft_subL (x y : Int) : Int := (let x := Int64.ofInt x; let y := Int64.ofInt y; x - y).toInt
theorem fv_lsub {x y : Int} (hd : decode K.2.1 pc = .ok (.lsub, 1)) (hp : pc + 1 = pc') (k : ft_V K pc' L (.inr (.inl (ft_subL x y)) :: st) h R) : ft_V K pc L (.inr (.inl y) :: .inr (.inl x) :: st) h R := by
  intro p l e s m args below meth c D ad cA H locs ls hC hR hL hS hl
  subst hp
  have t := k p l e s m args below meth c D ad cA H locs ls hC hR hL (ft_okc (show ft_ok (.inr (.inl (ft_subL x y))) from ft_inL_of _) (ft_okt (ft_okt hS))) hl
  simp only [List.map_cons, ft_val, ft_subL, ft_bkL] at t
  exact lv_lsub hC.1 hC.2.1 hd t
def ft_andL (x y : Int) : Int := (let x := Int64.ofInt x; let y := Int64.ofInt y; x &&& y).toInt
theorem fv_land {x y : Int} (hd : decode K.2.1 pc = .ok (.land, 1)) (hp : pc + 1 = pc') (k : ft_V K pc' L (.inr (.inl (ft_andL x y)) :: st) h R) : ft_V K pc L (.inr (.inl y) :: .inr (.inl x) :: st) h R := by
  intro p l e s m args below meth c D ad cA H locs ls hC hR hL hS hl
  subst hp
  have t := k p l e s m args below meth c D ad cA H locs ls hC hR hL (ft_okc (show ft_ok (.inr (.inl (ft_andL x y))) from ft_inL_of _) (ft_okt (ft_okt hS))) hl
  simp only [List.map_cons, ft_val, ft_andL, ft_bkL] at t
  exact lv_land hC.1 hC.2.1 hd t
def ft_orL (x y : Int) : Int := (let x := Int64.ofInt x; let y := Int64.ofInt y; x ||| y).toInt
theorem fv_lor {x y : Int} (hd : decode K.2.1 pc = .ok (.lor, 1)) (hp : pc + 1 = pc') (k : ft_V K pc' L (.inr (.inl (ft_orL x y)) :: st) h R) : ft_V K pc L (.inr (.inl y) :: .inr (.inl x) :: st) h R := by
  intro p l e s m args below meth c D ad cA H locs ls hC hR hL hS hl
  subst hp
  have t := k p l e s m args below meth c D ad cA H locs ls hC hR hL (ft_okc (show ft_ok (.inr (.inl (ft_orL x y))) from ft_inL_of _) (ft_okt (ft_okt hS))) hl
  simp only [List.map_cons, ft_val, ft_orL, ft_bkL] at t
  exact lv_lor hC.1 hC.2.1 hd t
def ft_xorL (x y : Int) : Int := (let x := Int64.ofInt x; let y := Int64.ofInt y; x ^^^ y).toInt
theorem fv_lxor {x y : Int} (hd : decode K.2.1 pc = .ok (.lxor, 1)) (hp : pc + 1 = pc') (k : ft_V K pc' L (.inr (.inl (ft_xorL x y)) :: st) h R) : ft_V K pc L (.inr (.inl y) :: .inr (.inl x) :: st) h R := by
  intro p l e s m args below meth c D ad cA H locs ls hC hR hL hS hl
  subst hp
  have t := k p l e s m args below meth c D ad cA H locs ls hC hR hL (ft_okc (show ft_ok (.inr (.inl (ft_xorL x y))) from ft_inL_of _) (ft_okt (ft_okt hS))) hl
  simp only [List.map_cons, ft_val, ft_xorL, ft_bkL] at t
  exact lv_lxor hC.1 hC.2.1 hd t
def ft_ushr (x y : Int) : Int := ((Int32.ofInt x).toUInt32 >>> ((Int32.ofInt y).toUInt32 &&& Int32.toUInt32 31)).toInt32.toInt
theorem fv_iushr {x y : Int} (hd : decode K.2.1 pc = .ok (.iushr, 1)) (hp : pc + 1 = pc') (k : ft_V K pc' L (.inl (ft_ushr x y) :: st) h R) : ft_V K pc L (.inl y :: .inl x :: st) h R := by
  intro p l e s m args below meth c D ad cA H locs ls hC hR hL hS hl
  subst hp
  have t := k p l e s m args below meth c D ad cA H locs ls hC hR hL (ft_okc (show ft_ok (.inl (ft_ushr x y)) from ft_in_of _) (ft_okt (ft_okt hS))) hl
  simp only [List.map_cons, ft_val, ft_ushr, ft_bk] at t
  exact lv_iushr hC.1 hC.2.1 hd rfl t
def ft_shlL (x y : Int) : Int := (Int64.ofInt x <<< ((Int32.ofInt y).toInt64 &&& 63)).toInt
theorem fv_lshl {x y : Int} (hd : decode K.2.1 pc = .ok (.lshl, 1)) (hp : pc + 1 = pc') (k : ft_V K pc' L (.inr (.inl (ft_shlL x y)) :: st) h R) : ft_V K pc L (.inl y :: .inr (.inl x) :: st) h R := by
  intro p l e s m args below meth c D ad cA H locs ls hC hR hL hS hl
  subst hp
  have t := k p l e s m args below meth c D ad cA H locs ls hC hR hL (ft_okc (show ft_ok (.inr (.inl (ft_shlL x y))) from ft_inL_of _) (ft_okt (ft_okt hS))) hl
  simp only [List.map_cons, ft_val, ft_shlL, ft_bkL] at t
  exact lv_lshl hC.1 hC.2.1 hd rfl t
def ft_ushrL (x y : Int) : Int := ((Int64.ofInt x).toUInt64 >>> ((Int32.ofInt y).toInt64.toUInt64 &&& Int64.toUInt64 63)).toInt64.toInt
theorem fv_lushr {x y : Int} (hd : decode K.2.1 pc = .ok (.lushr, 1)) (hp : pc + 1 = pc') (k : ft_V K pc' L (.inr (.inl (ft_ushrL x y)) :: st) h R) : ft_V K pc L (.inl y :: .inr (.inl x) :: st) h R := by
  intro p l e s m args below meth c D ad cA H locs ls hC hR hL hS hl
  subst hp
  have t := k p l e s m args below meth c D ad cA H locs ls hC hR hL (ft_okc (show ft_ok (.inr (.inl (ft_ushrL x y))) from ft_inL_of _) (ft_okt (ft_okt hS))) hl
  simp only [List.map_cons, ft_val, ft_ushrL, ft_bkL] at t
  exact lv_lushr hC.1 hC.2.1 hd rfl t
theorem ft_i2l {x : Int} (hx : ft_in x) : (Int32.ofInt x).toInt64 = Int64.ofInt x := by
  rw [← Int64.toInt_inj, Int32.toInt_toInt64, ft_toI hx, ft_toL ⟨by have := hx.1; omega, by have := hx.2; omega⟩]
theorem fv_i2l {x : Int} (hd : decode K.2.1 pc = .ok (.i2l, 1)) (hp : pc + 1 = pc') (k : ft_V K pc' L (.inr (.inl x) :: st) h R) : ft_V K pc L (.inl x :: st) h R := by
  intro p l e s m args below meth c D ad cA H locs ls hC hR hL hS hl
  subst hp
  have hx : ft_in x := ft_okh hS
  exact lv_i2l hC.1 hC.2.1 hd (ft_i2l hx) (k p l e s m args below meth c D ad cA H locs ls hC hR hL (ft_okc (show ft_ok (.inr (.inl x)) from ⟨by have := hx.1; omega, by have := hx.2; omega⟩) (ft_okt hS)) hl)
def ft_l2i (x : Int) : Int := (Int64.ofInt x).toInt32.toInt
theorem fv_l2i {x : Int} (hd : decode K.2.1 pc = .ok (.l2i, 1)) (hp : pc + 1 = pc') (k : ft_V K pc' L (.inl (ft_l2i x) :: st) h R) : ft_V K pc L (.inr (.inl x) :: st) h R := by
  intro p l e s m args below meth c D ad cA H locs ls hC hR hL hS hl
  subst hp
  have t := k p l e s m args below meth c D ad cA H locs ls hC hR hL (ft_okc (show ft_ok (.inl (ft_l2i x)) from ft_in_of _) (ft_okt hS)) hl
  simp only [List.map_cons, ft_val, ft_l2i, ft_bk] at t
  exact lv_l2i hC.1 hC.2.1 hd rfl t
def ft_i2b (x : Int) : Int := (Int32.ofInt x).toInt8.toInt32.toInt
theorem fv_i2b {x : Int} (hd : decode K.2.1 pc = .ok (.i2b, 1)) (hp : pc + 1 = pc') (k : ft_V K pc' L (.inl (ft_i2b x) :: st) h R) : ft_V K pc L (.inl x :: st) h R := by
  intro p l e s m args below meth c D ad cA H locs ls hC hR hL hS hl
  subst hp
  have t := k p l e s m args below meth c D ad cA H locs ls hC hR hL (ft_okc (show ft_ok (.inl (ft_i2b x)) from ft_in_of _) (ft_okt hS)) hl
  simp only [List.map_cons, ft_val, ft_i2b, ft_bk] at t
  exact lv_i2b hC.1 hC.2.1 hd rfl t
theorem ft_vc {ad : Nat → Nat} {v : ftV} (h : ft_isL (some v) = false) : (ft_val ad v).category = 1 := by
  rcases v with z | z | z
  · rfl
  · cases h
  · rfl
theorem fv_dup {v : ftV} (hd : decode K.2.1 pc = .ok (.dup, 1)) (hp : pc + 1 = pc') (hv : ft_isL (some v) = false) (k : ft_V K pc' L (v :: v :: st) h R) : ft_V K pc L (v :: st) h R := by
  intro p l e s m args below meth c D ad cA H locs ls hC hR hL hS hl
  subst hp
  exact lv_dup hC.1 hC.2.1 hd (ft_vc hv) (k p l e s m args below meth c D ad cA H locs ls hC hR hL (ft_okc (ft_okh hS) hS) hl)
theorem fv_pop {v : ftV} (hd : decode K.2.1 pc = .ok (.pop, 1)) (hp : pc + 1 = pc') (hv : ft_isL (some v) = false) (k : ft_V K pc' L st h R) : ft_V K pc L (v :: st) h R := by
  intro p l e s m args below meth c D ad cA H locs ls hC hR hL hS hl
  subst hp
  exact lv_pop hC.1 hC.2.1 hd (ft_vc hv) (k p l e s m args below meth c D ad cA H locs ls hC hR hL (ft_okt hS) hl)
theorem fv_dup2 {u v : ftV} (hd : decode K.2.1 pc = .ok (.dup2, 1)) (hp : pc + 1 = pc') (hu : ft_isL (some u) = false) (hv : ft_isL (some v) = false) (k : ft_V K pc' L (u :: v :: u :: v :: st) h R) : ft_V K pc L (u :: v :: st) h R := by
  intro p l e s m args below meth c D ad cA H locs ls hC hR hL hS hl
  subst hp
  exact lv_dup2_11 hC.1 hC.2.1 hd (ft_vc hu) (ft_vc hv) (k p l e s m args below meth c D ad cA H locs ls hC hR hL (ft_okc (ft_okh hS) (ft_okc (ft_okh (ft_okt hS)) hS)) hl)
theorem fv_goto {off : Int} (hd : decode K.2.1 pc = .ok (.goto off, 3)) (hp : (pc : Int) + off = (pc' : Int)) (k : ft_V K pc' L st h R) : ft_V K pc L st h R := by
  intro p l e s m args below meth c D ad cA H locs ls hC hR hL hS hl
  exact lv_goto hC.1 hC.2.1 hd hp (k p l e s m args below meth c D ad cA H locs ls hC hR hL hS hl)
theorem fv_mask {M : List Bool} (hm : ft_mask L M = L') (k : ft_V K pc L' st h R) : ft_V K pc L st h R := by
  intro p l e s m args below meth c D ad cA H locs ls hC hR hL hS hl
  subst hm
  refine k p l e s m args below meth c D ad cA H locs ls hC hR (fun v hv => ?_) hS ⟨hl.1, hl.2.1, fun q hq => ?_⟩
  · obtain ⟨i, hi⟩ := List.getElem?_of_mem hv
    exact hL v (List.mem_of_getElem? (ft_mask_get L M i v hi))
  · obtain ⟨i, w⟩ := q
    obtain ⟨v, hv, rfl⟩ := ft_lv_mem.mp hq
    exact ft_lget hl (ft_mask_get L M i v hv)
theorem fv_if_eq {x : Int} {off : Int} {tgt : Nat} (hd : decode K.2.1 pc = .ok (.ifCond .eq off, 3)) (hp : pc + 3 = pc') (ht : (pc : Int) + off = (tgt : Int)) (kt : x = 0 → ft_V K tgt L st h R) (kf : ¬ (x = 0) → ft_V K pc' L st h R) : ft_V K pc L (.inl x :: st) h R := by
  intro p l e s m args below meth c D ad cA H locs ls hC hR hL hS hl
  subst hp
  exact lv_if_eq hC.1 hC.2.1 hd ht (fun q => kt ((ft_eqI (ft_okh hS) ft_in0).mp q) p l e s m args below meth c D ad cA H locs ls hC hR hL (ft_okt hS) hl) (fun q => kf (fun z => q ((ft_eqI (ft_okh hS) ft_in0).mpr z)) p l e s m args below meth c D ad cA H locs ls hC hR hL (ft_okt hS) hl)
theorem fv_icmp_eq {x y : Int} {off : Int} {tgt : Nat} (hd : decode K.2.1 pc = .ok (.if_icmp .eq off, 3)) (hp : pc + 3 = pc') (ht : (pc : Int) + off = (tgt : Int)) (kt : x = y → ft_V K tgt L st h R) (kf : ¬ (x = y) → ft_V K pc' L st h R) : ft_V K pc L (.inl y :: .inl x :: st) h R := by
  intro p l e s m args below meth c D ad cA H locs ls hC hR hL hS hl
  subst hp
  exact lv_icmp_eq hC.1 hC.2.1 hd ht (fun q => kt ((ft_eqI (ft_okh (ft_okt hS)) (ft_okh hS)).mp q) p l e s m args below meth c D ad cA H locs ls hC hR hL (ft_okt (ft_okt hS)) hl) (fun q => kf (fun z => q ((ft_eqI (ft_okh (ft_okt hS)) (ft_okh hS)).mpr z)) p l e s m args below meth c D ad cA H locs ls hC hR hL (ft_okt (ft_okt hS)) hl)
theorem fv_lcmp_eq {x y : Int} {off : Int} {tgt : Nat} (hd0 : decode K.2.1 pc = .ok (.lcmp, 1)) (hd : decode K.2.1 (pc + 1) = .ok (.ifCond .eq off, 3)) (hp : pc + 4 = pc') (ht : ((pc + 1 : Nat) : Int) + off = (tgt : Int)) (kt : x = y → ft_V K tgt L st h R) (kf : ¬ (x = y) → ft_V K pc' L st h R) : ft_V K pc L (.inr (.inl y) :: .inr (.inl x) :: st) h R := by
  intro p l e s m args below meth c D ad cA H locs ls hC hR hL hS hl
  subst hp
  refine W.lcmp hC.1 hC.2.1 hd0 ?_
  exact lv_if_eq hC.1 hC.2.1 hd ht (fun q => kt ((ft_eqL (ft_okh (ft_okt hS)) (ft_okh hS)).mp ((lg_cmp_eq _ _).mp q)) p l e s m args below meth c D ad cA H locs ls hC hR hL (ft_okt (ft_okt hS)) hl) (fun q => kf (fun z => q ((lg_cmp_eq _ _).mpr ((ft_eqL (ft_okh (ft_okt hS)) (ft_okh hS)).mpr z))) p l e s m args below meth c D ad cA H locs ls hC hR hL (ft_okt (ft_okt hS)) hl)
theorem fv_if_ne {x : Int} {off : Int} {tgt : Nat} (hd : decode K.2.1 pc = .ok (.ifCond .ne off, 3)) (hp : pc + 3 = pc') (ht : (pc : Int) + off = (tgt : Int)) (kt : ¬ (x = 0) → ft_V K tgt L st h R) (kf : x = 0 → ft_V K pc' L st h R) : ft_V K pc L (.inl x :: st) h R := by
  intro p l e s m args below meth c D ad cA H locs ls hC hR hL hS hl
  subst hp
  exact lv_if_ne hC.1 hC.2.1 hd ht (fun q => kt (fun z => q ((ft_eqI (ft_okh hS) ft_in0).mpr z)) p l e s m args below meth c D ad cA H locs ls hC hR hL (ft_okt hS) hl) (fun q => kf ((ft_eqI (ft_okh hS) ft_in0).mp q) p l e s m args below meth c D ad cA H locs ls hC hR hL (ft_okt hS) hl)
theorem fv_icmp_ne {x y : Int} {off : Int} {tgt : Nat} (hd : decode K.2.1 pc = .ok (.if_icmp .ne off, 3)) (hp : pc + 3 = pc') (ht : (pc : Int) + off = (tgt : Int)) (kt : ¬ (x = y) → ft_V K tgt L st h R) (kf : x = y → ft_V K pc' L st h R) : ft_V K pc L (.inl y :: .inl x :: st) h R := by
  intro p l e s m args below meth c D ad cA H locs ls hC hR hL hS hl
  subst hp
  exact lv_icmp_ne hC.1 hC.2.1 hd ht (fun q => kt (fun z => q ((ft_eqI (ft_okh (ft_okt hS)) (ft_okh hS)).mpr z)) p l e s m args below meth c D ad cA H locs ls hC hR hL (ft_okt (ft_okt hS)) hl) (fun q => kf ((ft_eqI (ft_okh (ft_okt hS)) (ft_okh hS)).mp q) p l e s m args below meth c D ad cA H locs ls hC hR hL (ft_okt (ft_okt hS)) hl)
theorem fv_lcmp_ne {x y : Int} {off : Int} {tgt : Nat} (hd0 : decode K.2.1 pc = .ok (.lcmp, 1)) (hd : decode K.2.1 (pc + 1) = .ok (.ifCond .ne off, 3)) (hp : pc + 4 = pc') (ht : ((pc + 1 : Nat) : Int) + off = (tgt : Int)) (kt : ¬ (x = y) → ft_V K tgt L st h R) (kf : x = y → ft_V K pc' L st h R) : ft_V K pc L (.inr (.inl y) :: .inr (.inl x) :: st) h R := by
  intro p l e s m args below meth c D ad cA H locs ls hC hR hL hS hl
  subst hp
  refine W.lcmp hC.1 hC.2.1 hd0 ?_
  exact lv_if_ne hC.1 hC.2.1 hd ht (fun q => kt (fun z => q ((lg_cmp_eq _ _).mpr ((ft_eqL (ft_okh (ft_okt hS)) (ft_okh hS)).mpr z))) p l e s m args below meth c D ad cA H locs ls hC hR hL (ft_okt (ft_okt hS)) hl) (fun q => kf ((ft_eqL (ft_okh (ft_okt hS)) (ft_okh hS)).mp ((lg_cmp_eq _ _).mp q)) p l e s m args below meth c D ad cA H locs ls hC hR hL (ft_okt (ft_okt hS)) hl)
theorem fv_if_lt {x : Int} {off : Int} {tgt : Nat} (hd : decode K.2.1 pc = .ok (.ifCond .lt off, 3)) (hp : pc + 3 = pc') (ht : (pc : Int) + off = (tgt : Int)) (kt : x < 0 → ft_V K tgt L st h R) (kf : ¬ (x < 0) → ft_V K pc' L st h R) : ft_V K pc L (.inl x :: st) h R := by
  intro p l e s m args below meth c D ad cA H locs ls hC hR hL hS hl
  subst hp
  exact lv_if_lt hC.1 hC.2.1 hd ht (fun q => kt ((ft_ltI (ft_okh hS) ft_in0).mp q) p l e s m args below meth c D ad cA H locs ls hC hR hL (ft_okt hS) hl) (fun q => kf (fun z => q ((ft_ltI (ft_okh hS) ft_in0).mpr z)) p l e s m args below meth c D ad cA H locs ls hC hR hL (ft_okt hS) hl)
theorem fv_icmp_lt {x y : Int} {off : Int} {tgt : Nat} (hd : decode K.2.1 pc = .ok (.if_icmp .lt off, 3)) (hp : pc + 3 = pc') (ht : (pc : Int) + off = (tgt : Int)) (kt : x < y → ft_V K tgt L st h R) (kf : ¬ (x < y) → ft_V K pc' L st h R) : ft_V K pc L (.inl y :: .inl x :: st) h R := by
  intro p l e s m args below meth c D ad cA H locs ls hC hR hL hS hl
  subst hp
  exact lv_icmp_lt hC.1 hC.2.1 hd ht (fun q => kt ((ft_ltI (ft_okh (ft_okt hS)) (ft_okh hS)).mp q) p l e s m args below meth c D ad cA H locs ls hC hR hL (ft_okt (ft_okt hS)) hl) (fun q => kf (fun z => q ((ft_ltI (ft_okh (ft_okt hS)) (ft_okh hS)).mpr z)) p l e s m args below meth c D ad cA H locs ls hC hR hL (ft_okt (ft_okt hS)) hl)
theorem fv_lcmp_lt {x y : Int} {off : Int} {tgt : Nat} (hd0 : decode K.2.1 pc = .ok (.lcmp, 1)) (hd : decode K.2.1 (pc + 1) = .ok (.ifCond .lt off, 3)) (hp : pc + 4 = pc') (ht : ((pc + 1 : Nat) : Int) + off = (tgt : Int)) (kt : x < y → ft_V K tgt L st h R) (kf : ¬ (x < y) → ft_V K pc' L st h R) : ft_V K pc L (.inr (.inl y) :: .inr (.inl x) :: st) h R := by
  intro p l e s m args below meth c D ad cA H locs ls hC hR hL hS hl
  subst hp
  refine W.lcmp hC.1 hC.2.1 hd0 ?_
  exact lv_if_lt hC.1 hC.2.1 hd ht (fun q => kt ((ft_ltL (ft_okh (ft_okt hS)) (ft_okh hS)).mp ((lg_cmp_lt _ _).mp q)) p l e s m args below meth c D ad cA H locs ls hC hR hL (ft_okt (ft_okt hS)) hl) (fun q => kf (fun z => q ((lg_cmp_lt _ _).mpr ((ft_ltL (ft_okh (ft_okt hS)) (ft_okh hS)).mpr z))) p l e s m args below meth c D ad cA H locs ls hC hR hL (ft_okt (ft_okt hS)) hl)
theorem fv_if_ge {x : Int} {off : Int} {tgt : Nat} (hd : decode K.2.1 pc = .ok (.ifCond .ge off, 3)) (hp : pc + 3 = pc') (ht : (pc : Int) + off = (tgt : Int)) (kt : 0 ≤ x → ft_V K tgt L st h R) (kf : ¬ (0 ≤ x) → ft_V K pc' L st h R) : ft_V K pc L (.inl x :: st) h R := by
  intro p l e s m args below meth c D ad cA H locs ls hC hR hL hS hl
  subst hp
  exact lv_if_ge hC.1 hC.2.1 hd ht (fun q => kt ((ft_leI ft_in0 (ft_okh hS)).mp q) p l e s m args below meth c D ad cA H locs ls hC hR hL (ft_okt hS) hl) (fun q => kf (fun z => q ((ft_leI ft_in0 (ft_okh hS)).mpr z)) p l e s m args below meth c D ad cA H locs ls hC hR hL (ft_okt hS) hl)
theorem fv_icmp_ge {x y : Int} {off : Int} {tgt : Nat} (hd : decode K.2.1 pc = .ok (.if_icmp .ge off, 3)) (hp : pc + 3 = pc') (ht : (pc : Int) + off = (tgt : Int)) (kt : y ≤ x → ft_V K tgt L st h R) (kf : ¬ (y ≤ x) → ft_V K pc' L st h R) : ft_V K pc L (.inl y :: .inl x :: st) h R := by
  intro p l e s m args below meth c D ad cA H locs ls hC hR hL hS hl
  subst hp
  exact lv_icmp_ge hC.1 hC.2.1 hd ht (fun q => kt ((ft_leI (ft_okh hS) (ft_okh (ft_okt hS))).mp q) p l e s m args below meth c D ad cA H locs ls hC hR hL (ft_okt (ft_okt hS)) hl) (fun q => kf (fun z => q ((ft_leI (ft_okh hS) (ft_okh (ft_okt hS))).mpr z)) p l e s m args below meth c D ad cA H locs ls hC hR hL (ft_okt (ft_okt hS)) hl)
theorem fv_lcmp_ge {x y : Int} {off : Int} {tgt : Nat} (hd0 : decode K.2.1 pc = .ok (.lcmp, 1)) (hd : decode K.2.1 (pc + 1) = .ok (.ifCond .ge off, 3)) (hp : pc + 4 = pc') (ht : ((pc + 1 : Nat) : Int) + off = (tgt : Int)) (kt : y ≤ x → ft_V K tgt L st h R) (kf : ¬ (y ≤ x) → ft_V K pc' L st h R) : ft_V K pc L (.inr (.inl y) :: .inr (.inl x) :: st) h R := by
  intro p l e s m args below meth c D ad cA H locs ls hC hR hL hS hl
  subst hp
  refine W.lcmp hC.1 hC.2.1 hd0 ?_
  exact lv_if_ge hC.1 hC.2.1 hd ht (fun q => kt ((ft_leL (ft_okh hS) (ft_okh (ft_okt hS))).mp ((lg_cmp_ge _ _).mp q)) p l e s m args below meth c D ad cA H locs ls hC hR hL (ft_okt (ft_okt hS)) hl) (fun q => kf (fun z => q ((lg_cmp_ge _ _).mpr ((ft_leL (ft_okh hS) (ft_okh (ft_okt hS))).mpr z))) p l e s m args below meth c D ad cA H locs ls hC hR hL (ft_okt (ft_okt hS)) hl)
theorem fv_if_gt {x : Int} {off : Int} {tgt : Nat} (hd : decode K.2.1 pc = .ok (.ifCond .gt off, 3)) (hp : pc + 3 = pc') (ht : (pc : Int) + off = (tgt : Int)) (kt : 0 < x → ft_V K tgt L st h R) (kf : ¬ (0 < x) → ft_V K pc' L st h R) : ft_V K pc L (.inl x :: st) h R := by
  intro p l e s m args below meth c D ad cA H locs ls hC hR hL hS hl
  subst hp
  exact lv_if_gt hC.1 hC.2.1 hd ht (fun q => kt ((ft_ltI ft_in0 (ft_okh hS)).mp q) p l e s m args below meth c D ad cA H locs ls hC hR hL (ft_okt hS) hl) (fun q => kf (fun z => q ((ft_ltI ft_in0 (ft_okh hS)).mpr z)) p l e s m args below meth c D ad cA H locs ls hC hR hL (ft_okt hS) hl)
theorem fv_icmp_gt {x y : Int} {off : Int} {tgt : Nat} (hd : decode K.2.1 pc = .ok (.if_icmp .gt off, 3)) (hp : pc + 3 = pc') (ht : (pc : Int) + off = (tgt : Int)) (kt : y < x → ft_V K tgt L st h R) (kf : ¬ (y < x) → ft_V K pc' L st h R) : ft_V K pc L (.inl y :: .inl x :: st) h R := by
  intro p l e s m args below meth c D ad cA H locs ls hC hR hL hS hl
  subst hp
  exact lv_icmp_gt hC.1 hC.2.1 hd ht (fun q => kt ((ft_ltI (ft_okh hS) (ft_okh (ft_okt hS))).mp q) p l e s m args below meth c D ad cA H locs ls hC hR hL (ft_okt (ft_okt hS)) hl) (fun q => kf (fun z => q ((ft_ltI (ft_okh hS) (ft_okh (ft_okt hS))).mpr z)) p l e s m args below meth c D ad cA H locs ls hC hR hL (ft_okt (ft_okt hS)) hl)
theorem fv_lcmp_gt {x y : Int} {off : Int} {tgt : Nat} (hd0 : decode K.2.1 pc = .ok (.lcmp, 1)) (hd : decode K.2.1 (pc + 1) = .ok (.ifCond .gt off, 3)) (hp : pc + 4 = pc') (ht : ((pc + 1 : Nat) : Int) + off = (tgt : Int)) (kt : y < x → ft_V K tgt L st h R) (kf : ¬ (y < x) → ft_V K pc' L st h R) : ft_V K pc L (.inr (.inl y) :: .inr (.inl x) :: st) h R := by
  intro p l e s m args below meth c D ad cA H locs ls hC hR hL hS hl
  subst hp
  refine W.lcmp hC.1 hC.2.1 hd0 ?_
  exact lv_if_gt hC.1 hC.2.1 hd ht (fun q => kt ((ft_ltL (ft_okh hS) (ft_okh (ft_okt hS))).mp ((lg_cmp_gt _ _).mp q)) p l e s m args below meth c D ad cA H locs ls hC hR hL (ft_okt (ft_okt hS)) hl) (fun q => kf (fun z => q ((lg_cmp_gt _ _).mpr ((ft_ltL (ft_okh hS) (ft_okh (ft_okt hS))).mpr z))) p l e s m args below meth c D ad cA H locs ls hC hR hL (ft_okt (ft_okt hS)) hl)
theorem fv_if_le {x : Int} {off : Int} {tgt : Nat} (hd : decode K.2.1 pc = .ok (.ifCond .le off, 3)) (hp : pc + 3 = pc') (ht : (pc : Int) + off = (tgt : Int)) (kt : x ≤ 0 → ft_V K tgt L st h R) (kf : ¬ (x ≤ 0) → ft_V K pc' L st h R) : ft_V K pc L (.inl x :: st) h R := by
  intro p l e s m args below meth c D ad cA H locs ls hC hR hL hS hl
  subst hp
  exact lv_if_le hC.1 hC.2.1 hd ht (fun q => kt ((ft_leI (ft_okh hS) ft_in0).mp q) p l e s m args below meth c D ad cA H locs ls hC hR hL (ft_okt hS) hl) (fun q => kf (fun z => q ((ft_leI (ft_okh hS) ft_in0).mpr z)) p l e s m args below meth c D ad cA H locs ls hC hR hL (ft_okt hS) hl)
theorem fv_icmp_le {x y : Int} {off : Int} {tgt : Nat} (hd : decode K.2.1 pc = .ok (.if_icmp .le off, 3)) (hp : pc + 3 = pc') (ht : (pc : Int) + off = (tgt : Int)) (kt : x ≤ y → ft_V K tgt L st h R) (kf : ¬ (x ≤ y) → ft_V K pc' L st h R) : ft_V K pc L (.inl y :: .inl x :: st) h R := by
  intro p l e s m args below meth c D ad cA H locs ls hC hR hL hS hl
  subst hp
  exact lv_icmp_le hC.1 hC.2.1 hd ht (fun q => kt ((ft_leI (ft_okh (ft_okt hS)) (ft_okh hS)).mp q) p l e s m args below meth c D ad cA H locs ls hC hR hL (ft_okt (ft_okt hS)) hl) (fun q => kf (fun z => q ((ft_leI (ft_okh (ft_okt hS)) (ft_okh hS)).mpr z)) p l e s m args below meth c D ad cA H locs ls hC hR hL (ft_okt (ft_okt hS)) hl)
theorem fv_lcmp_le {x y : Int} {off : Int} {tgt : Nat} (hd0 : decode K.2.1 pc = .ok (.lcmp, 1)) (hd : decode K.2.1 (pc + 1) = .ok (.ifCond .le off, 3)) (hp : pc + 4 = pc') (ht : ((pc + 1 : Nat) : Int) + off = (tgt : Int)) (kt : x ≤ y → ft_V K tgt L st h R) (kf : ¬ (x ≤ y) → ft_V K pc' L st h R) : ft_V K pc L (.inr (.inl y) :: .inr (.inl x) :: st) h R := by
  intro p l e s m args below meth c D ad cA H locs ls hC hR hL hS hl
  subst hp
  refine W.lcmp hC.1 hC.2.1 hd0 ?_
  exact lv_if_le hC.1 hC.2.1 hd ht (fun q => kt ((ft_leL (ft_okh (ft_okt hS)) (ft_okh hS)).mp ((lg_cmp_le _ _).mp q)) p l e s m args below meth c D ad cA H locs ls hC hR hL (ft_okt (ft_okt hS)) hl) (fun q => kf (fun z => q ((lg_cmp_le _ _).mpr ((ft_leL (ft_okh (ft_okt hS)) (ft_okh hS)).mpr z))) p l e s m args below meth c D ad cA H locs ls hC hR hL (ft_okt (ft_okt hS)) hl)
theorem fv_tswIn {dflt lo hi : Int} {offs : Array Int} {len : Nat} {x off : Int} (hd : decode K.2.1 pc = .ok (.tableswitch dflt lo hi offs, len)) (h1 : ¬ x < lo) (h2 : ¬ hi < x) (ho : offs[(x - lo).toNat]? = some off) (hp : (pc : Int) + off = (pc' : Int)) (k : ft_V K pc' L st h R) : ft_V K pc L (.inl x :: st) h R := by
  intro p l e s m args below meth c D ad cA H locs ls hC hR hL hS hl
  have ex : (Int32.ofInt x).toInt = x := ft_toI (ft_okh hS)
  exact lv_tableIn hC.1 hC.2.1 hd (by rw [ex]; exact h1) (by rw [ex]; exact h2) (by rw [ex]; exact ho) hp (k p l e s m args below meth c D ad cA H locs ls hC hR hL (ft_okt hS) hl)
theorem fv_tswOut {dflt lo hi : Int} {offs : Array Int} {len : Nat} {x : Int} (hd : decode K.2.1 pc = .ok (.tableswitch dflt lo hi offs, len)) (hx : x < lo ∨ hi < x) (hp : (pc : Int) + dflt = (pc' : Int)) (k : ft_V K pc' L st h R) : ft_V K pc L (.inl x :: st) h R := by
  intro p l e s m args below meth c D ad cA H locs ls hC hR hL hS hl
  have ex : (Int32.ofInt x).toInt = x := ft_toI (ft_okh hS)
  exact lv_tableOut hC.1 hC.2.1 hd (by rw [ex]; exact hx) hp (k p l e s m args below meth c D ad cA H locs ls hC hR hL (ft_okt hS) hl)
theorem ft_ret {D : va_G} {ad : Nat → Nat} {cA : Nat → ClassId} {H H0 : Heap} {locs : List Loc} {s t : State} (hK : va_K D ft_cls (ft_tys cA) s) (hR : ft_Rp D ad cA h H H0 locs) (ht : t.heap = H) (hW : s.WarmedH t.vm) : ft_P0 D ad cA h t := ⟨by rw [ht]; exact hR.1, va_K.moved hW.alike hK, hR.2.1, hR.2.2.2⟩
theorem fv_return (hd : decode K.2.1 pc = .ok (.return_, 1)) (hr : K.2.2.2.1 = none) (k : R none h) : ft_V K pc L [] h R := by
  intro p l e s m args below meth c D ad cA H locs ls hC hR hL hS hl
  have hlocks := hC.2.2.2.2.2.2.1
  rw [hr]
  exact W.vret hC.1 hC.2.1 (hC.2.2.1.trans hr) (fun t ht hW => ⟨⟨h, rfl, k, ft_ret hC.2.2.2.2.2.2.2.1 hR ht hW⟩, hR.2.2.1.F ht⟩) hR.2.2.1.2.2 hd
theorem fv_lreturn {x : Int} (hd : decode K.2.1 pc = .ok (.lreturn, 1)) (hr : K.2.2.2.1 = some .long) (k : R (some (.inr (.inl x))) h) : ft_V K pc L [.inr (.inl x)] h R := by
  intro p l e s m args below meth c D ad cA H locs ls hC hR hL hS hl
  have hlocks := hC.2.2.2.2.2.2.1
  rw [hr]
  have hx : (Int64.ofInt x).toInt = x := ft_toL (ft_okh hS)
  exact W.lret hC.1 hC.2.1 (hC.2.2.1.trans hr) (fun t ht hW => ⟨⟨Int64.ofInt x, h, rfl, by show R (some (.inr (.inl (Int64.ofInt x).toInt))) h; rw [hx]; exact k, ft_ret hC.2.2.2.2.2.2.2.1 hR ht hW⟩, hR.2.2.1.F ht⟩) hR.2.2.1.2.2 hd
theorem fv_ireturn {x : Int} (hd : decode K.2.1 pc = .ok (.ireturn, 1)) (hr : K.2.2.2.1 = some .int) (k : R (some (.inl x)) h) : ft_V K pc L [.inl x] h R := by
  intro p l e s m args below meth c D ad cA H locs ls hC hR hL hS hl
  have hlocks := hC.2.2.2.2.2.2.1
  rw [hr]
  have hx : (Int32.ofInt x).toInt = x := ft_toI (ft_okh hS)
  exact W.iret hC.1 hC.2.1 (hC.2.2.1.trans hr) (fun t ht hW => ⟨⟨Int32.ofInt x, h, rfl, by show R (some (.inl (Int32.ofInt x).toInt)) h; rw [hx]; exact k, ft_ret hC.2.2.2.2.2.2.2.1 hR ht hW⟩, hR.2.2.1.F ht⟩) hR.2.2.1.2.2 hd
theorem fv_zreturn {x : Int} (hd : decode K.2.1 pc = .ok (.ireturn, 1)) (hr : K.2.2.2.1 = some .boolean) (hx01 : x = 0 ∨ x = 1) (k : R (some (.inl x)) h) : ft_V K pc L [.inl x] h R := by
  intro p l e s m args below meth c D ad cA H locs ls hC hR hL hS hl
  have hlocks := hC.2.2.2.2.2.2.1
  rw [hr]
  have hx : (Int32.ofInt x).toInt = x := ft_toI (ft_okh hS)
  exact W.zret (ty := .boolean) hC.1 hC.2.1 (hC.2.2.1.trans hr) (by rcases hx01 with rfl | rfl <;> decide +kernel) (fun t ht hW => ⟨⟨Int32.ofInt x, h, rfl, by show R (some (.inl (Int32.ofInt x).toInt)) h; rw [hx]; exact k, ft_ret hC.2.2.2.2.2.2.2.1 hR ht hW⟩, hR.2.2.1.F ht⟩) hR.2.2.1.2.2 hd
end FVR
