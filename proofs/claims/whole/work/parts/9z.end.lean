/-! THE END: new int[n][m], Choice's constructor, the claim -/
/-! ===== BEGIN new T[n][m]: the outer array a place, the inner ones among the pooled ===== -/
/-- f, but v at every address of l -/
def vr_up {α : Type} (f : Nat → α) (l : List Nat) (v : α) : Nat → α := fun a => if a ∈ l then v else f a
theorem vr_up_in {α : Type} {f : Nat → α} {l : List Nat} {v : α} {a : Nat} (h : a ∈ l) : vr_up f l v a = v := if_pos h
theorem vr_up_ne {α : Type} {f : Nat → α} {l : List Nat} {v : α} {a : Nat} (h : a ∉ l) : vr_up f l v a = f a := if_neg h
theorem vr_rows {L l : List Nat} {f : Nat → va_E} {e : va_E} (h : ∀ a, a ∈ l → a ∉ L) : va_pl L f ++ l.map (fun a => (a, e)) = va_pl (L ++ l) (vr_up f l e) := by
  unfold va_pl
  rw [List.map_append]
  congr 1
  · apply List.map_congr_left
    intro a ha
    rw [vr_up_ne (fun q => h a q ha)]
  · apply List.map_congr_left
    intro a ha
    rw [vr_up_in ha]
theorem vr_lay {X rows : va_W} {x : Nat × va_E} {pl : va_W} {D : va_G} {cl : List vw_C} {H : Heap} (hP : va_P D cl (((X ++ pl) ++ [x]) ++ rows) H) : va_P D cl ((X ++ [x]) ++ (pl ++ rows)) H := by
  rw [List.append_assoc (X ++ pl)] at hP
  have h := va_P.swap hP
  rw [← List.append_assoc X] at h
  have h2 := va_P.swap h
  rw [List.append_assoc (X ++ [x])] at h2
  exact h2
theorem vr_layD {X rows : va_W} {x : Nat × va_E} {pl : va_W} {A : Nat → Prop} (hD : va_D A (((X ++ pl) ++ [x]) ++ rows)) : va_D A ((X ++ [x]) ++ (pl ++ rows)) := by
  rw [List.append_assoc (X ++ pl)] at hD
  have h := va_D.swap hD
  rw [← List.append_assoc X] at h
  have h2 := va_D.swap h
  rw [List.append_assoc (X ++ [x])] at h2
  exact h2
section VGM
variable {p : Program} {l : Launch} {e : Env} {R : Room} {s : State} {m : MethodId} {args : Array Value} {below : List Frame} {meth : Method} {c : Code} {H : Heap} {locs : List Loc} {cells slots : Nat} {Q : State → Prop}
variable {cc : ByteArray} {pc : Nat} {ls : Array Slot} {rest : List Value} {D : va_G} {cl : List vw_C} {A : Nat → Prop} {a : Nat} {tys : List (ClassId × FieldType)} {ws : va_W} {H0 : Heap}
theorem va_mna {X : va_W} {L : List Nat} {f : Nat → va_E} {cc : ByteArray} (hexec : p.tables.exec = Jvm.exec) (hb : c.code = cc) {own : String} {index : Nat} {ty : FieldType} {cy : ClassId} (hown : s.vm.findClass own = some m.cls) (hclink : (Cond.classLink own index ("[" ++ (FieldType.array ty).toString)).before args s = true) (hover : gAO (.array ty) s) (harr : (Cond.arrayClass ty).before args s = true) (hcy : s.vm.findClass (FieldType.array ty).toString = some cy)
    (hK : va_K D cl tys s) (hP : va_P D cl (X ++ va_pl L f) H) (hD : va_D A (X ++ va_pl L f)) (hS : va_S A H0 H locs) (hA : ∀ q, H0.size ≤ q → A q) {n k : Int32} {N' K' : Nat} {z : vp_A} (hn : ¬ n < 0) (hk : ¬ k < 0) (hN : n.toNatClampNeg = N') (hM : k.toNatClampNeg = K')
    (hb1 : N' * 4 ≤ 536870912) (hb2 : K' * componentBytes ty ≤ 536870912) (hb3 : K' ≤ 536870912) (hdf : fits ty (defaultValue ty) = true) (hdd : (defaultValue ty).isDefault = true) (hcells : cells + (1 + N') ≤ R.cells) (hslots : slots + (N' + N' * K') ≤ R.slots) (hz : ∀ c : ClassId, arrV c K' (fun _ => defaultValue ty) = vp_cell c z) (hdg : decode cc pc = .ok (.multianewarray index 2, 4))
    (kk : ∀ (q : Nat) (r : Nat → Nat) (cA : ClassId) (H1 : Heap), (∀ i j : Nat, i < N' → j < N' → r i = r j → i = j) → (∀ i : Nat, i < N' → r i ∉ L) → va_K D cl (tys ++ [(cA, .array ty)]) s →
      va_P D cl ((X ++ [(q, .inl (cA, N', .inr (.inr (.inr (.inr (fun i => if i < N' then some (r i) else none))))))]) ++ va_pl (L ++ (List.range N').map r) (vr_up f ((List.range N').map r) (.inl (cy, z)))) H1 → va_D A ((X ++ [(q, .inl (cA, N', .inr (.inr (.inr (.inr (fun i => if i < N' then some (r i) else none))))))]) ++ va_pl (L ++ (List.range N').map r) (vr_up f ((List.range N').map r) (.inl (cy, z)))) → va_S A H0 H1 locs →
      W p l e R s m args below meth c H1 locs (cells + 1 + N') (slots + N' + N' * K') Q (F0 m (pc + 4) ls (.ref q :: rest))) : W p l e R s m args below meth c H locs cells slots Q (F0 m pc ls (.int k :: .int n :: rest)) := by
  subst hN
  subst hM
  intro T hT Xs
  obtain ⟨vm₁, cA, fA, hAr, X', step⟩ := mg_step Xs hexec hown hclink hover harr hcy (g := F0 m pc ls (.int k :: .int n :: rest)) rfl (by rw [hb]; exact hdg) rfl hn hk rfl rfl hb1 hb2 hb3 hdf hcells hslots
  have hTh : (T.setVm vm₁).heap = H := hT
  obtain ⟨-, f1, -, f0⟩ := mgF_all (T.setVm vm₁) cA n.toNatClampNeg (arrV cy k.toNatClampNeg (fun _ => defaultValue ty)) n.toNatClampNeg
  generalize mgF (T.setVm vm₁) cA n.toNatClampNeg (arrV cy k.toNatClampNeg (fun _ => defaultValue ty)) n.toNatClampNeg = F at X' step f1 f0
  rw [hTh] at f1 f0
  have f2 : F.heap[H.size]? = some (mgO cA n.toNatClampNeg H.size n.toNatClampNeg) := by rw [f0 _ (by omega), if_neg (Nat.lt_irrefl _), if_pos rfl]
  have hold : ∀ x : Nat, x < H.size → F.heap[x]? = H[x]? := fun x hx => by rw [f0 x (by omega), if_pos hx]
  have hrow : ∀ j : Nat, j < n.toNatClampNeg → F.heap[H.size + 1 + j]? = some (vp_cell cy z) := fun j hj => by rw [f0 _ (by omega), if_neg (by omega), if_neg (by omega), hz]
  have hout : mgO cA n.toNatClampNeg H.size n.toNatClampNeg = vp_cell cA (n.toNatClampNeg, .inr (.inr (.inr (.inr (fun i => if i < n.toNatClampNeg then some (H.size + 1 + i) else none))))) := rfl
  rw [hout] at f2
  have hlt : ∀ a, a ∈ L → a < H.size := fun a ha => by
    obtain ⟨k9, hk9⟩ := va_pl_get (X := X) (f := f) ha
    exact (hP k9 _ hk9).lt
  have hnl : ∀ i : Nat, i < n.toNatClampNeg → H.size + 1 + i ∉ L := fun i _ h => by
    have := hlt _ h
    omega
  have hnm : ∀ a, a ∈ (List.range n.toNatClampNeg).map (fun i => H.size + 1 + i) → a ∉ L := fun a ha h => by
    obtain ⟨i, -, rfl⟩ := List.mem_map.mp ha
    have := hlt _ h
    omega
  have hP0 : va_P D cl (X ++ va_pl L f) F.heap := hP.kept (fun k9 x hx => hold x.1 ((hP k9 x hx).lt))
  have hP1 : va_P D cl ((X ++ va_pl L f) ++ [(H.size, .inl (cA, n.toNatClampNeg, .inr (.inr (.inr (.inr (fun i => if i < n.toNatClampNeg then some (H.size + 1 + i) else none))))))]) F.heap := hP0.app (fun k9 x hx => by
    have h0 : k9 < 1 := (List.getElem?_eq_some_iff.mp hx).1
    rw [show k9 = 0 by omega] at hx
    cases hx
    exact f2)
  have hP2 : va_P D cl (((X ++ va_pl L f) ++ [(H.size, .inl (cA, n.toNatClampNeg, .inr (.inr (.inr (.inr (fun i => if i < n.toNatClampNeg then some (H.size + 1 + i) else none))))))]) ++ ((List.range n.toNatClampNeg).map (fun i => H.size + 1 + i)).map (fun a => (a, .inl (cy, z)))) F.heap := hP1.app (fun k9 x hx => by
    obtain ⟨a, ha, rfl⟩ := List.mem_map.mp (List.mem_of_getElem? hx)
    obtain ⟨i, hi, rfl⟩ := List.mem_map.mp ha
    exact hrow i (List.mem_range.mp hi))
  have hD2 : va_D A (((X ++ va_pl L f) ++ [(H.size, .inl (cA, n.toNatClampNeg, .inr (.inr (.inr (.inr (fun i => if i < n.toNatClampNeg then some (H.size + 1 + i) else none))))))]) ++ ((List.range n.toNatClampNeg).map (fun i => H.size + 1 + i)).map (fun a => (a, .inl (cy, z)))) := by
    have hD1 := hD.push (e := .inl (cA, n.toNatClampNeg, .inr (.inr (.inr (.inr (fun i => if i < n.toNatClampNeg then some (H.size + 1 + i) else none)))))) hP rfl (hA _ hS.1)
    generalize hW1 : (X ++ va_pl L f) ++ [(H.size, .inl (cA, n.toNatClampNeg, .inr (.inr (.inr (.inr (fun i => if i < n.toNatClampNeg then some (H.size + 1 + i) else none))))))] = W1 at hD1 hP1 ⊢
    have hle : ∀ (k9 : Nat) (x : Nat × va_E), W1[k9]? = some x → x.1 ≤ H.size := fun k9 x hx => by
      rw [← hW1] at hx
      by_cases hl : k9 < (X ++ va_pl L f).length
      · rw [List.getElem?_append_left hl] at hx
        exact Nat.le_of_lt ((hP k9 x hx).lt)
      · rw [List.getElem?_append_right (by omega)] at hx
        have h0 : k9 - (X ++ va_pl L f).length < 1 := (List.getElem?_eq_some_iff.mp hx).1
        rw [show k9 - (X ++ va_pl L f).length = 0 by omega] at hx
        cases hx
        exact Nat.le_refl _
    have hr : ∀ (k9 : Nat) (x : Nat × va_E), (((List.range n.toNatClampNeg).map (fun i => H.size + 1 + i)).map (fun a => ((a, .inl (cy, z)) : Nat × va_E)))[k9]? = some x → x.1 = H.size + 1 + k9 := fun k9 x hx => by
      rw [List.getElem?_map, List.getElem?_map] at hx
      by_cases h9 : k9 < n.toNatClampNeg
      · rw [List.getElem?_range h9] at hx
        cases hx
        rfl
      · have hn0 : (List.range n.toNatClampNeg)[k9]? = none := List.getElem?_eq_none (by rw [List.length_range]; omega)
        rw [hn0] at hx
        cases hx
    refine ⟨fun i j x y hi hj hxy => ?_, fun k9 x hx => ?_⟩
    · by_cases h1 : i < W1.length <;> by_cases h2 : j < W1.length
      · rw [List.getElem?_append_left h1] at hi
        rw [List.getElem?_append_left h2] at hj
        exact hD1.1 i j x y hi hj hxy
      · rw [List.getElem?_append_left h1] at hi
        rw [List.getElem?_append_right (by omega)] at hj
        have := hle _ _ hi
        have := hr _ _ hj
        omega
      · rw [List.getElem?_append_right (by omega)] at hi
        rw [List.getElem?_append_left h2] at hj
        have := hle _ _ hj
        have := hr _ _ hi
        omega
      · rw [List.getElem?_append_right (by omega)] at hi hj
        have := hr _ _ hi
        have := hr _ _ hj
        omega
    · by_cases h1 : k9 < W1.length
      · rw [List.getElem?_append_left h1] at hx
        exact hD1.2 k9 x hx
      · rw [List.getElem?_append_right (by omega)] at hx
        have := hr _ _ hx
        exact hA _ (by have := hS.1; omega)
  have hK2 : va_K D cl (tys ++ [(cA, .array ty)]) s := ⟨hK.1, fun k9 x hx => by
    by_cases hl : k9 < tys.length
    · rw [List.getElem?_append_left hl] at hx
      exact hK.2 k9 x hx
    · rw [List.getElem?_append_right (by omega)] at hx
      have h0 : k9 - tys.length < 1 := (List.getElem?_eq_some_iff.mp hx).1
      rw [show k9 - tys.length = 0 by omega] at hx
      cases hx
      exact ⟨hAr, fA⟩⟩
  obtain ⟨t, a1, b1⟩ := kk H.size (fun i => H.size + 1 + i) cA F.heap (fun i j _ _ h => by have h9 : H.size + 1 + i = H.size + 1 + j := h; omega) hnl hK2 (by rw [← vr_rows hnm]; exact vr_lay hP2) (by rw [← vr_rows hnm]; exact vr_layD hD2) ⟨by rw [f1]; have := hS.1; omega, fun x h1 h2 => (hold x (Nat.lt_of_lt_of_le h1 hS.1)).trans (hS.2.1 x h1 h2), hS.2.2⟩ F rfl X'
  refine ⟨t, step t ?_, b1⟩
  have e : T.heap.size = H.size := by rw [hT]
  rw [e]
  exact a1
end VGM
/-! ===== END ===== -/
section GVM
variable {K : ftM} {pc pc' : Nat} {L : List (Option ftV)} {st : List ftV} {n : Nat} {h : ftH} {z : gZ} {ce sl n0 : Nat} {R : Nat → ftH → gZ → Prop}
theorem gv_mna {idx t N M : Nat} {ty : FieldType} (hd : decode K.2.1 pc = .ok (.multianewarray idx 2, 4)) (hp : pc + 4 = pc') (hto : ft_sh n = some (.inr (5 + t, N))) (hrow : ∀ i, i < N → ft_sh (n + 1 + i) = some (.inr (t, M))) (hlay : ∀ i, i < N → ft_lay n i = n + 1 + i) (ht : t < 2) (hN : N ≤ 1000) (hM : M ≤ 1000)
    (hcl : ft_g (.classLink K.1.cls idx ("[" ++ (FieldType.array ty).toString))) (harr : ft_g (.arrayClass ty)) (hao : ∀ U, gX U → gAO (.array ty) U) (hty : ∀ cA : Nat → ClassId, (ft_tys cA)[t]? = some (cA t, ty)) (htyo : ∀ cA : Nat → ClassId, (ft_tys cA)[5 + t]? = some (cA (5 + t), .array ty)) (hts : (FieldType.array ty).toString = "[" ++ ty.toString) (hno : ∀ C, ty ≠ .object C)
    (hcb : componentBytes ty ≤ 8) (hdf : fits ty (defaultValue ty) = true) (hdd : (defaultValue ty).isDefault = true) (hz0 : ∀ c : ClassId, arrV c M (fun _ => defaultValue ty) = vp_cell c (M, if t = 1 then .inr (.inl fun _ => 0) else .inl fun _ => 0))
    (hce : ce + (1 + N) ≤ K.2.2.2.2.cells) (hsl : sl + (N + N * M) ≤ K.2.2.2.2.slots) (k : gV K pc' L (.inr (.inr n) :: st) (n + 1 + N) h ((List.range N).map (fun j => (n, j)) ++ z) (ce + 1 + N) (sl + N + N * M) n0 R) : gV K pc L (.inl (M : Int) :: .inl (N : Int) :: st) n h z ce sl n0 R := by
  intro p l e s m args below meth c D ad0 ad cA A H locs ls hC ha hP hD hS hA hz hL hs hl
  subst hp
  have hK := hC.2.2.2.2.2.2.2.1
  have hcy : s.vm.findClass (FieldType.array ty).toString = some (cA t) := by
    have := (hK.2 t _ (hty cA)).2
    rw [hts]
    cases ty with
    | object C => exact absurd rfl (hno C)
    | _ => exact this
  have inN : ft_in (N : Int) := ⟨by omega, by omega⟩
  have inM : ft_in (M : Int) := ⟨by omega, by omega⟩
  have hs2 := gk_t (gk_t hs)
  refine va_mna (X := gws ad cA h z n) (L := []) (f := fun _ => .inr (0, [])) (z := (M, if t = 1 then .inr (.inl fun _ => 0) else .inl fun _ => 0)) hC.1 hC.2.1 hC.2.2.2.2.1 (g_hts hC _ (ft_gf hcl)) (hao s hC.2.2.2.2.2.2.2.2.1) (g_hts hC _ (ft_gf harr)) hcy hK (by show va_P D ft_cls (gws ad cA h z n ++ []) H; rw [List.append_nil]; exact hP) (by show va_D A (gws ad cA h z n ++ []); rw [List.append_nil]; exact hD) hS hA (ft_nn inN (by omega)) (ft_nn inM (by omega)) (by rw [ft_cl inN, Int.toNat_natCast]) (by rw [ft_cl inM, Int.toNat_natCast]) (by omega) (Nat.le_trans (Nat.mul_le_mul hM hcb) (Nat.le_of_ble_eq_true rfl)) (by omega) hdf hdd hce hsl hz0 hd (fun q r cAo H1 hinj hnot hK1 hP1 hD1 hS1 => ?_)
  have eo : cAo = cA (5 + t) := by
    have h1 : s.vm.findClass ("[" ++ (FieldType.array ty).toString) = some (cA (5 + t)) := (hK.2 (5 + t) _ (htyo cA)).2
    have h2 : s.vm.findClass ("[" ++ (FieldType.array ty).toString) = some cAo := (hK1.2 7 (cAo, .array ty) rfl).2
    exact Option.some.inj (h2.symm.trans h1)
  subst eo
  obtain ⟨ad', g1, g2, g3⟩ : ∃ ad' : Nat → Nat, (∀ k, k < n → ad' k = ad k) ∧ ad' n = q ∧ ∀ i, ad' (n + 1 + i) = r i := by
    refine ⟨fun k => if k < n then ad k else if k = n then q else r (k - (n + 1)), fun k hk => if_pos hk, ?_, fun i => ?_⟩
    · show (if n < n then _ else if n = n then q else _) = q
      rw [if_neg (by omega), if_pos rfl]
    · show (if n + 1 + i < n then _ else if n + 1 + i = n then q else r (n + 1 + i - (n + 1))) = r i
      rw [if_neg (by omega), if_neg (by omega), show n + 1 + i - (n + 1) = i by omega]
  have e1 : (gws ad cA h z n ++ [(q, .inl (cA (5 + t), N, .inr (.inr (.inr (.inr (fun i => if i < N then some (r i) else none))))))]) ++ va_pl ([] ++ (List.range N).map r) (vr_up (fun _ => .inr (0, [])) ((List.range N).map r) (.inl (cA t, (M, if t = 1 then .inr (.inl fun _ => 0) else .inl fun _ => 0)))) = gws ad' cA h ((List.range N).map (fun j => (n, j)) ++ z) (n + 1 + N) := by
    rw [gws_rows hto hrow hlay ht hz g1, ← vr_rows (L := []) (fun a _ h => by cases h)]
    simp only [g2, g3, List.map_map]
    rfl
  rw [e1] at hP1 hD1
  have hz1 : gzk h ((List.range N).map (fun j => (n, j)) ++ z) (n + 1 + N) := ⟨hz.1, fun k hk => hz.2.1 k (by omega), fun x hx => by
    obtain ⟨a, b⟩ := x
    rcases gRw_mem.mp hx with w | w
    · obtain ⟨w1, w2⟩ := w
      subst w1
      exact ⟨by show a < a + 1 + N; omega, by show ft_lay a b < a + 1 + N; rw [hlay b w2]; omega⟩
    · have := hz.2.2 _ w
      exact ⟨by omega, by omega⟩⟩
  have t9 := k p l e s m args below meth c D ad0 ad' cA A H1 locs ls hC ⟨fun k hk => (g1 k (by omega)).trans (ha.1 k hk), by omega⟩ hP1 hD1 hS1 hA hz1 (fun v hv => ⟨(hL v hv).1, gr_mono (by omega) (hL v hv).2⟩) (gk_c ⟨trivial, by show n < n + 1 + N; omega⟩ (fun v hv => ⟨(hs2 v hv).1, gr_mono (by omega) (hs2 v hv).2⟩)) (gr_lv g1 (fun v hv => (hL v hv).2) hl)
  rw [List.map_cons, gr_map g1 (fun v hv => (hs2 v hv).2)] at t9
  have e2 : ft_val ad' (.inr (.inr n)) = .ref q := by
    show Value.ref (ad' n) = _
    rw [g2]
  rw [e2] at t9
  exact t9
theorem gv_mnaI {idx : Nat} (hd : decode K.2.1 pc = .ok (.multianewarray idx 2, 4)) (hp : pc + 4 = pc') (hto : ft_sh n = some (.inr (5, 68))) (hrow : ∀ i, i < 68 → ft_sh (n + 1 + i) = some (.inr (0, 61))) (hlay : ∀ i, i < 68 → ft_lay n i = n + 1 + i) (hcl : ft_g (.classLink K.1.cls idx ("[" ++ (FieldType.array .int).toString))) (hce : ce + (1 + 68) ≤ K.2.2.2.2.cells) (hsl : sl + (68 + 68 * 61) ≤ K.2.2.2.2.slots) (k : gV K pc' L (.inr (.inr n) :: st) (n + 1 + 68) h (gRow n ++ z) (ce + 1 + 68) (sl + 68 + 68 * 61) n0 R) : gV K pc L (.inl 61 :: .inl 68 :: st) n h z ce sl n0 R :=
  gv_mna (t := 0) (N := 68) (M := 61) (ty := .int) hd hp hto hrow hlay (by decide) (by decide) (by decide) hcl (ft_gt 69 (by decide +kernel) rfl) (fun U h => h.2.2.1) (fun _ => rfl) (fun _ => rfl) rfl (fun C q => by cases q) (by decide) (by decide) (by decide) (fun c => by rw [if_neg (by decide), vp_cell_i]; rfl) hce hsl k
theorem gv_mnaJ {idx : Nat} (hd : decode K.2.1 pc = .ok (.multianewarray idx 2, 4)) (hp : pc + 4 = pc') (hto : ft_sh n = some (.inr (6, 68))) (hrow : ∀ i, i < 68 → ft_sh (n + 1 + i) = some (.inr (1, 61))) (hlay : ∀ i, i < 68 → ft_lay n i = n + 1 + i) (hcl : ft_g (.classLink K.1.cls idx ("[" ++ (FieldType.array .long).toString))) (hce : ce + (1 + 68) ≤ K.2.2.2.2.cells) (hsl : sl + (68 + 68 * 61) ≤ K.2.2.2.2.slots) (k : gV K pc' L (.inr (.inr n) :: st) (n + 1 + 68) h (gRow n ++ z) (ce + 1 + 68) (sl + 68 + 68 * 61) n0 R) : gV K pc L (.inl 61 :: .inl 68 :: st) n h z ce sl n0 R :=
  gv_mna (t := 1) (N := 68) (M := 61) (ty := .long) hd hp hto hrow hlay (by decide) (by decide) (by decide) hcl (ft_gt 68 (by decide +kernel) rfl) (fun U h => h.2.2.2) (fun _ => rfl) (fun _ => rfl) rfl (fun C q => by cases q) (by decide) (by decide) (by decide) (fun c => by rw [if_pos rfl, vp_cell_l]; rfl) hce hsl k
end GVM
theorem mc_24 : ft_g (.classLink kI_Ch_init.1.cls 24 ("[" ++ (FieldType.array .int).toString)) := ft_gt 268 (by decide +kernel) (by decide +kernel)
theorem mc_29 : ft_g (.classLink kI_Ch_init.1.cls 29 ("[" ++ (FieldType.array .long).toString)) := ft_gt 270 (by decide +kernel) (by decide +kernel)
set_option maxRecDepth 20000 in
theorem gc_Ch_init {h : ftH} {z : gZ} : gC kI_Ch_init [.inr (.inr 143)] 144 h z (fun n1 h1 z1 => n1 = 289 ∧ h1 = h ∧ z1 = z_Ch_init z) := by
  refine g_enter (j := 0) (L := [some (.inr (.inr 143))]) rfl rfl rfl (Nat.le_of_ble_eq_true rfl) rfl ?_
  refine gv_aload_n (ft_d o_Ch_init 0 rfl) rfl rfl ?_
  refine gv_objInit (ft_d o_Ch_init 1 rfl) rfl lo_Ch_init oi_i oi_c (Nat.le_of_ble_eq_true rfl) (Or.inr ⟨rfl, (Nat.le_of_ble_eq_true rfl)⟩) (Nat.le_of_ble_eq_true rfl) ?_
  refine gv_aload_n (ft_d o_Ch_init 2 rfl) rfl rfl ?_
  refine gv_bipush (ft_d o_Ch_init 3 rfl) rfl rfl ?_
  refine gv_newI (ft_d o_Ch_init 4 rfl) rfl (by decide +kernel) rfl (Nat.le_of_ble_eq_true rfl) (Nat.le_of_ble_eq_true rfl) (Nat.le_of_ble_eq_true rfl) ?_
  refine gv_putR (ft_d o_Ch_init 5 rfl) rfl fl_Ch_9 rfl rfl (fun x => ⟨rfl, rfl⟩) (by decide +kernel) rfl (by decide +kernel) ?_
  refine gv_aload_n (ft_d o_Ch_init 6 rfl) rfl rfl ?_
  refine gv_new (ft_d o_Ch_init 7 rfl) rfl (by decide +kernel) ck_4 cl_Ch_15 in_4 iz_4 rfl nd_4 (Nat.le_of_ble_eq_true rfl) (Nat.le_of_ble_eq_true rfl) ?_
  refine gv_dup (ft_d o_Ch_init 8 rfl) rfl rfl ?_
  refine gv_bipush (ft_d o_Ch_init 9 rfl) rfl rfl ?_
  refine gv_call (K' := kI_PS_init 60) (b := 145) (As := [.inl (60)]) (ft_d o_Ch_init 10 rfl) rfl mi_Ch_17 li_PS_init (lw_PS_init 60) rfl rfl ⟨(Nat.le_of_ble_eq_true rfl), (Nat.le_of_ble_eq_true rfl)⟩ rfl rfl (Nat.le_of_ble_eq_true rfl) (Nat.le_of_ble_eq_true rfl) (Nat.le_of_ble_eq_true rfl) (gc_PS_init (a := 145) (N := 60) (by decide +kernel) (Nat.le_of_ble_eq_true rfl)) ?_
  intro n1 h1 z1 w
  obtain ⟨w1, w2, w3⟩ := w
  rw [w1, w2, w3]
  refine ⟨Nat.le_of_ble_eq_true rfl, ?_⟩
  refine gv_putR (ft_d o_Ch_init 11 rfl) rfl fl_Ch_20 rfl rfl (fun x => ⟨rfl, rfl⟩) (by decide +kernel) rfl (by decide +kernel) ?_
  refine gv_aload_n (ft_d o_Ch_init 12 rfl) rfl rfl ?_
  refine gv_bipush (ft_d o_Ch_init 13 rfl) rfl rfl ?_
  refine gv_bipush (ft_d o_Ch_init 14 rfl) rfl rfl ?_
  refine gv_mnaI (ft_d o_Ch_init 15 rfl) rfl (by decide +kernel) (by decide +kernel) (by decide +kernel) mc_24 (Nat.le_of_ble_eq_true rfl) (Nat.le_of_ble_eq_true rfl) ?_
  refine gv_putR (ft_d o_Ch_init 16 rfl) rfl fl_Ch_26 rfl rfl (fun x => ⟨rfl, rfl⟩) (by decide +kernel) rfl (by decide +kernel) ?_
  refine gv_aload_n (ft_d o_Ch_init 17 rfl) rfl rfl ?_
  refine gv_bipush (ft_d o_Ch_init 18 rfl) rfl rfl ?_
  refine gv_bipush (ft_d o_Ch_init 19 rfl) rfl rfl ?_
  refine gv_mnaJ (ft_d o_Ch_init 20 rfl) rfl (by decide +kernel) (by decide +kernel) (by decide +kernel) mc_29 (Nat.le_of_ble_eq_true rfl) (Nat.le_of_ble_eq_true rfl) ?_
  refine gv_putR (ft_d o_Ch_init 21 rfl) rfl fl_Ch_31 rfl rfl (fun x => ⟨rfl, rfl⟩) (by decide +kernel) rfl (by decide +kernel) ?_
  refine gv_aload_n (ft_d o_Ch_init 22 rfl) rfl rfl ?_
  refine gv_bipush (ft_d o_Ch_init 23 rfl) rfl rfl ?_
  refine gv_newI (ft_d o_Ch_init 24 rfl) rfl (by decide +kernel) rfl (Nat.le_of_ble_eq_true rfl) (Nat.le_of_ble_eq_true rfl) (Nat.le_of_ble_eq_true rfl) ?_
  refine gv_putR (ft_d o_Ch_init 25 rfl) rfl fl_Ch_34 rfl rfl (fun x => ⟨rfl, rfl⟩) (by decide +kernel) rfl (by decide +kernel) ?_
  refine gv_aload_n (ft_d o_Ch_init 26 rfl) rfl rfl ?_
  refine gv_bipush (ft_d o_Ch_init 27 rfl) rfl rfl ?_
  refine gv_newI (ft_d o_Ch_init 28 rfl) rfl (by decide +kernel) rfl (Nat.le_of_ble_eq_true rfl) (Nat.le_of_ble_eq_true rfl) (Nat.le_of_ble_eq_true rfl) ?_
  refine gv_putR (ft_d o_Ch_init 29 rfl) rfl fl_Ch_37 rfl rfl (fun x => ⟨rfl, rfl⟩) (by decide +kernel) rfl (by decide +kernel) ?_
  refine gv_aload_n (ft_d o_Ch_init 30 rfl) rfl rfl ?_
  refine gv_bipush (ft_d o_Ch_init 31 rfl) rfl rfl ?_
  refine gv_newJ (ft_d o_Ch_init 32 rfl) rfl (by decide +kernel) rfl (Nat.le_of_ble_eq_true rfl) (Nat.le_of_ble_eq_true rfl) (Nat.le_of_ble_eq_true rfl) ?_
  refine gv_putR (ft_d o_Ch_init 33 rfl) rfl fl_Ch_40 rfl rfl (fun x => ⟨rfl, rfl⟩) (by decide +kernel) rfl (by decide +kernel) ?_
  exact gv_return (ft_d o_Ch_init 34 rfl) rfl rfl ⟨rfl, rfl, rfl⟩

theorem whole_start {p : Program} {e : Env} {s : State} {m : MethodId} {below : List Frame} {meth : Method} {c : Code} (l : Launch) (hflags : l.flags = flags0) {b L : Nat} {xs : Nat → Int32} (hL : L ≤ 3072) (C0 : lw_At p s m meth c b L xs) : W p l e room_1 s m #[Value.ref b] below meth c s.heap [] 0 0 (lw_Z below #[Value.ref b] s) (entryFrame m ([Value.ref b] : List Value).toArray 4) := whole_start0 (fun {h} {z} => gc_Ch_init) l hL C0
set_option maxHeartbeats 4000000 in
theorem lw_walk (l : Launch) (hflags : l.flags = flags0) (b : Addr) (xs : List Int32) : MetFree l x (headSpec (Jvm.Cond.code x code maxLocals ret :: tables_1) room_1) (lw_P b xs) (fun _ _ _ _ _ => True) lw_Q := by
  refine MetFree.of_bodyS (code := code) (maxLocals := maxLocals) (ret := ret) (by decide) ?_ ?_
  · intro args s m h hn
    obtain ⟨meth, c, h1, h2, h3, h4, h5, h6, -, -⟩ := Cond.code_spec hn (atoms_spec (ws := Jvm.Cond.code x code maxLocals ret :: tables_1) h _ List.mem_cons_self)
    exact ⟨meth, c, h1, h2, h3, h4, h5, h6⟩
  · intro p e s m args below meth c s₁ B hml0 hP _
    obtain ⟨rfl, hx, hbd, hgv⟩ := hP
    obtain ⟨scr, harrAt, hlist, hof, hsmall⟩ := hx
    obtain ⟨hcb, hkn, -, -⟩ := State.arrayAt?_spec harrAt
    have hown : s.vm.findClass R_law = some m.cls := findClass_of_methodNamed B.named
    have hts0 : ∀ c ∈ (Jvm.Cond.code x code maxLocals ret :: tables_1), c.before #[Value.ref b] s = true := atoms_spec (ws := Jvm.Cond.code x code maxLocals ret :: tables_1) B.pre
    have hts : ∀ w ∈ lw_tbl, w.before #[Value.ref b] s = true := k2_hts_sels lw_privs (fun w hw => hts0 w (List.mem_cons_of_mem _ hw)) lw_privs_ok
    have hml : c.maxLocals = 4 := B.maxLocals_eq (hts0 _ List.mem_cons_self)
    have X₀ : Stand p l e room_1 s m #[Value.ref b] below meth c s₁ [] 0 0 := Stand.of_body B
    have hh0 : s₁.heap = s.heap := by rw [B.state]; rfl
    have hsz : scr.slots.size = xs.length := by rw [← Array.length_toList, hlist, List.length_map]
    have hval : ∀ j : Nat, j < xs.length → scr.slots[j]? = some (.int (xs.getD j 0)) := fun j hj => by
      rw [← Array.getElem?_toList, hlist]
      simp [hj]
    have hbl : b < s.heap.size := (Array.getElem?_eq_some_iff.mp hcb).1
    have hX : va_X b xs.length (fun j => xs.getD j 0) s s.heap := ⟨scr, hcb, hof, hkn, hsz, hval⟩
    have K : W p l e room_1 s m #[Value.ref b] below meth c s₁.heap [] 0 0 (lw_Z below #[Value.ref b] s) (entryFrame m ([Value.ref b] : List Value).toArray 4) := by
      rw [hh0]
      exact whole_start l hflags hbd ⟨B.exec, B.bytes, B.returns, hml, hown, hts, hX, hbl, B.notSynchronized, hgv⟩
    obtain ⟨t, a1, o, b1, b2, b3⟩ := K s₁ rfl X₀
    exact ⟨t, o, a1, b1, b2, b3⟩
theorem lw_pre_spec {args : Array Value} {s : State} (h : (Jvm.Cond.and given_1 narrow_1).before args s = true) (hr : rest_1_c.before args s = true) : ∃ (b : Addr) (xs : List Int32), lw_P b xs args s := by
  have hs := flat_of_before _ h
  have hq := flat_of_before _ hr
  have hc : (Cond.count 1).before args s = true := hs _ (by decide +kernel)
  have harr : (Cond.arrayOf (.arg 0) .int).before args s = true := hs _ (by decide +kernel)
  have hle : (Cond.le (.length (.arg 0)) (.int 3072)).before args s = true := hs _ (by decide +kernel)
  have hlen : (Cond.isInt (.length (.arg 0))).before args s = true := hq _ (by decide +kernel)
  have hall : (Cond.all (.arg 0) (.isInt (.elem (.arg 0) (.index 0)))).before args s = true := hq _ (by decide +kernel)
  obtain ⟨b, xs, hb, hx⟩ := State.ints_of_pre rfl harr hlen hall
  have hsm : xs.length < 2 ^ 31 := hx.choose_spec.2.2.2
  have hev : (Term.length (.arg 0)).eval args s none [] s = some (.int xs.length.toInt32) := hx.length_eval hb
  have hv := Cond.le_ints hev (show (Term.int 3072).eval args s none [] s = some (.int 3072) from rfl)
  have hd : xs.length.toInt32 ≤ 3072 := by
    simpa [Cond.before, Cond.holds, hv] using hle
  have hN : xs.length ≤ 3072 := (Int32.ofNat_le_ofNat hsm (by decide)).mp (show Int32.ofNat xs.length ≤ Int32.ofNat 3072 from hd)
  exact ⟨b, xs, Cond.one_arg hc (show args[0]? = some (.ref b) from hb), hx, hN, h⟩
theorem lw_comes (l : Launch) (hflags : l.flags = flags0) : Comes l x (Jvm.Cond.code x code maxLocals ret :: tables_1) room_1 (fun tb e args s => Calls_1 tb e args s ∧ rest_1 tb e args s ∧ Pre_1 tb e args s)
    (fun _ _ args s o t => lw_Q args s o t) := by
  intro p e ha hc hk s m args below hf hfit hheap happ hpre
  obtain ⟨b, xs, hP⟩ := lw_pre_spec hpre.2.2 hpre.2.1
  obtain ⟨k, o, h1, h2, h3, hQ⟩ := lw_walk l hflags b xs p e ha hc hk s m args below hf ((Spec.applies_iff_loose hf).mp happ).1 hP trivial
  exact ⟨k, o, h1, h2, h3, hQ⟩
theorem lw_frame {s t : State} {o : Outcome} {args : Array Value} (h : Framed s o t [] 600000 7302250) :
    Framed s o t (fieldLocs frame_1_writes args s ++ arrayLocs frame_1_arrays args s ++ staticLocs frame_1_statics s) 600000 7302250 := h
theorem lw_limb (L : Cond) (hL : ∀ (args : Array Value) (s t : State), L.after args s (.returned (some (.int 1))) t = true) :
    ArmFor flags0 classFile x code maxLocals ret World_1 tables_1 room_1 Calls_1 rest_1 Pre_1
      (fun tb e a s o t => postC L tb e a s o t ∧ Framed s o t (fieldLocs frame_1_writes a s ++ arrayLocs frame_1_arrays a s ++ staticLocs frame_1_statics s) 600000 7302250) := by
  intro l hflags _ _ p e ha hc hk s m args below hf hfit hheap happ hpre
  obtain ⟨k, o, h1, h2, h3, rfl, hF⟩ := lw_comes l hflags p e ha hc hk s m args below hf hfit hheap happ hpre
  exact ⟨k, _, h1, h2, h3, hL args s _, lw_frame hF⟩
theorem i_vc : Claimed_1_1 ∧ Claimed_1_2 := ⟨lw_limb limb_1_1 (fun args s t => by simp [limb_1_1, Cond.after, Cond.holds, Cond.value]), lw_limb limb_1_2 (fun args s t => Cond.after_iff.mpr (by
  first | (rw [show limb_1_2 = Cond.eq .result (.int 1) from rfl, Cond.eq_ints (x := 1) (y := 1) rfl rfl]; simp; done) | (simp [limb_1_2, Cond.value, Term.eval]; done)))⟩

