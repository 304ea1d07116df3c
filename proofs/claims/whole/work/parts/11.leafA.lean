/-! printed by wip/whole/gen/gen10.py: what must hold at each cut point -/
set_option maxRecDepth 20000 in
theorem b_FT_numberOrNotFound_0 {x0 : Int} {h : ftH} {R : Option ftV → ftH → Prop} 
    (w : ((0 ≤ x0 → R (some (.inl x0)) h) ∧ (¬ (0 ≤ x0) → R (some (.inl ((-2)))) h))) : ft_V k_FT_numberOrNotFound 0 [some (.inl x0)] [] h R := by
  refine fv_iload_n (ft_d o_FT_numberOrNotFound 0 rfl) rfl rfl ?_
  refine fv_if_ge (tgt := 9) (ft_d o_FT_numberOrNotFound 1 rfl) rfl rfl (fun c => ?_) (fun c => ?_)
  · have w := w.1 c
    refine fv_iload_n (ft_d o_FT_numberOrNotFound 4 rfl) rfl rfl ?_
    exact fv_ireturn (ft_d o_FT_numberOrNotFound 5 rfl) rfl w
  · have w := w.2 c
    refine fv_bipush (ft_d o_FT_numberOrNotFound 2 rfl) rfl rfl ?_
    refine fv_goto (pc' := 10) (ft_d o_FT_numberOrNotFound 3 rfl) rfl ?_
    exact fv_ireturn (ft_d o_FT_numberOrNotFound 5 rfl) rfl w
set_option maxRecDepth 20000 in
theorem b_FT_isAligned_0 {x0 : Int} {x2 : Int} {h : ftH} {R : Option ftV → ftH → Prop} 
    (w : ((¬ (ft_andL x0 (ft_subL (ft_ushrL 4294967296 x2) 1) = 0) → R (some (.inl 0)) h) ∧ (ft_andL x0 (ft_subL (ft_ushrL 4294967296 x2) 1) = 0 → R (some (.inl 1)) h))) : ft_V k_FT_isAligned 0 [some (.inr (.inl x0)), none, some (.inl x2)] [] h R := by
  refine fv_lload_n (ft_d o_FT_isAligned 0 rfl) rfl rfl ?_
  refine fv_ldc2 (v := 4294967296) (z := 4294967296) (ft_d o_FT_isAligned 1 rfl) rfl (ft_gt 518 (by decide +kernel) rfl) rfl ?_
  refine fv_iload_n (ft_d o_FT_isAligned 2 rfl) rfl rfl ?_
  refine fv_lushr (ft_d o_FT_isAligned 3 rfl) rfl ?_
  refine fv_lconst (z := 1) (ft_d o_FT_isAligned 4 rfl) rfl rfl ?_
  refine fv_lsub (ft_d o_FT_isAligned 5 rfl) rfl ?_
  refine fv_land (ft_d o_FT_isAligned 6 rfl) rfl ?_
  refine fv_lconst (z := 0) (ft_d o_FT_isAligned 7 rfl) rfl rfl ?_
  refine fv_lcmp_ne (tgt := 18) (ft_d o_FT_isAligned 8 rfl) (ft_d o_FT_isAligned 9 rfl) rfl rfl (fun c => ?_) (fun c => ?_)
  · have w := w.1 c
    refine fv_iconst (ft_d o_FT_isAligned 12 rfl) rfl rfl ?_
    exact fv_zreturn (ft_d o_FT_isAligned 13 rfl) rfl (Or.inl rfl) w
  · have w := w.2 c
    refine fv_iconst (ft_d o_FT_isAligned 10 rfl) rfl rfl ?_
    refine fv_goto (pc' := 19) (ft_d o_FT_isAligned 11 rfl) rfl ?_
    exact fv_zreturn (ft_d o_FT_isAligned 13 rfl) rfl (Or.inr rfl) w
set_option maxRecDepth 20000 in
theorem b_FT_keyOf_0 {x0 : Int} {x2 : Int} {h : ftH} {R : Option ftV → ftH → Prop} 
    (w : R (some (.inr (.inl (ft_orL (ft_shlL x0 6) x2)))) h) : ft_V k_FT_keyOf 0 [some (.inr (.inl x0)), none, some (.inl x2)] [] h R := by
  refine fv_lload_n (ft_d o_FT_keyOf 0 rfl) rfl rfl ?_
  refine fv_bipush (ft_d o_FT_keyOf 1 rfl) rfl rfl ?_
  refine fv_lshl (ft_d o_FT_keyOf 2 rfl) rfl ?_
  refine fv_iload_n (ft_d o_FT_keyOf 3 rfl) rfl rfl ?_
  refine fv_i2l (ft_d o_FT_keyOf 4 rfl) rfl ?_
  refine fv_lor (ft_d o_FT_keyOf 5 rfl) rfl ?_
  exact fv_lreturn (ft_d o_FT_keyOf 6 rfl) rfl w
set_option maxRecDepth 20000 in
theorem b_FT_startOf_0 {x0 : Int} {h : ftH} {R : Option ftV → ftH → Prop} 
    (w : R (some (.inr (.inl (ft_ushrL x0 6)))) h) : ft_V k_FT_startOf 0 [some (.inr (.inl x0)), none] [] h R := by
  refine fv_lload_n (ft_d o_FT_startOf 0 rfl) rfl rfl ?_
  refine fv_bipush (ft_d o_FT_startOf 1 rfl) rfl rfl ?_
  refine fv_lushr (ft_d o_FT_startOf 2 rfl) rfl ?_
  exact fv_lreturn (ft_d o_FT_startOf 3 rfl) rfl w
set_option maxRecDepth 20000 in
theorem b_FT_lengthOf_0 {x0 : Int} {h : ftH} {R : Option ftV → ftH → Prop} 
    (w : R (some (.inl (ft_l2i (ft_andL x0 63)))) h) : ft_V k_FT_lengthOf 0 [some (.inr (.inl x0)), none] [] h R := by
  refine fv_lload_n (ft_d o_FT_lengthOf 0 rfl) rfl rfl ?_
  refine fv_ldc2 (v := 63) (z := 63) (ft_d o_FT_lengthOf 1 rfl) rfl (ft_gt 636 (by decide +kernel) rfl) rfl ?_
  refine fv_land (ft_d o_FT_lengthOf 2 rfl) rfl ?_
  refine fv_l2i (ft_d o_FT_lengthOf 3 rfl) rfl ?_
  exact fv_ireturn (ft_d o_FT_lengthOf 4 rfl) rfl w
set_option maxRecDepth 20000 in
theorem b_FT_endOf_0 {x0 : Int} {h : ftH} {R : Option ftV → ftH → Prop} 
    (w : R (some (.inr (.inl (ft_addL (ft_ushrL x0 6) (ft_ushrL 4294967296 (ft_l2i (ft_andL x0 63))))))) h) : ft_V k_FT_endOf 0 [some (.inr (.inl x0)), none] [] h R := by
  refine fv_lload_n (ft_d o_FT_endOf 0 rfl) rfl rfl ?_
  refine fv_bipush (ft_d o_FT_endOf 1 rfl) rfl rfl ?_
  refine fv_lushr (ft_d o_FT_endOf 2 rfl) rfl ?_
  refine fv_ldc2 (v := 4294967296) (z := 4294967296) (ft_d o_FT_endOf 3 rfl) rfl (ft_gt 518 (by decide +kernel) rfl) rfl ?_
  refine fv_lload_n (ft_d o_FT_endOf 4 rfl) rfl rfl ?_
  refine fv_ldc2 (v := 63) (z := 63) (ft_d o_FT_endOf 5 rfl) rfl (ft_gt 636 (by decide +kernel) rfl) rfl ?_
  refine fv_land (ft_d o_FT_endOf 6 rfl) rfl ?_
  refine fv_l2i (ft_d o_FT_endOf 7 rfl) rfl ?_
  refine fv_lushr (ft_d o_FT_endOf 8 rfl) rfl ?_
  refine fv_ladd (ft_d o_FT_endOf 9 rfl) rfl ?_
  exact fv_lreturn (ft_d o_FT_endOf 10 rfl) rfl w
set_option maxRecDepth 20000 in
theorem b_Mo_in_0 {x0 : Int} {x2 : Int} {x4 : Int} {h : ftH} {R : Option ftV → ftH → Prop} 
    (w : ((x0 < x2 → R (some (.inl 0)) h) ∧ (¬ (x0 < x2) → ((x4 < x0 → R (some (.inl 0)) h) ∧ (¬ (x4 < x0) → R (some (.inl 1)) h))))) : ft_V k_Mo_in 0 [some (.inr (.inl x0)), none, some (.inr (.inl x2)), none, some (.inr (.inl x4)), none] [] h R := by
  refine fv_lload_n (ft_d o_Mo_in 0 rfl) rfl rfl ?_
  refine fv_lload_n (ft_d o_Mo_in 1 rfl) rfl rfl ?_
  refine fv_lcmp_lt (tgt := 17) (ft_d o_Mo_in 2 rfl) (ft_d o_Mo_in 3 rfl) rfl rfl (fun c => ?_) (fun c => ?_)
  · have w := w.1 c
    refine fv_iconst (ft_d o_Mo_in 10 rfl) rfl rfl ?_
    exact fv_zreturn (ft_d o_Mo_in 11 rfl) rfl (Or.inl rfl) w
  · have w := w.2 c
    refine fv_lload_n (ft_d o_Mo_in 4 rfl) rfl rfl ?_
    refine fv_lload (ft_d o_Mo_in 5 rfl) rfl rfl ?_
    refine fv_lcmp_gt (tgt := 17) (ft_d o_Mo_in 6 rfl) (ft_d o_Mo_in 7 rfl) rfl rfl (fun c => ?_) (fun c => ?_)
    · have w := w.1 c
      refine fv_iconst (ft_d o_Mo_in 10 rfl) rfl rfl ?_
      exact fv_zreturn (ft_d o_Mo_in 11 rfl) rfl (Or.inl rfl) w
    · have w := w.2 c
      refine fv_iconst (ft_d o_Mo_in 8 rfl) rfl rfl ?_
      refine fv_goto (pc' := 18) (ft_d o_Mo_in 9 rfl) rfl ?_
      exact fv_zreturn (ft_d o_Mo_in 11 rfl) rfl (Or.inr rfl) w
set_option maxRecDepth 20000 in
theorem b_Mo_maskOf_0 {x0 : Int} {h : ftH} {R : Option ftV → ftH → Prop} 
    (w : ((¬ (x0 = 0) → R (some (.inl (ft_shl ((-1)) (ft_sub 32 x0)))) h) ∧ (x0 = 0 → R (some (.inl 0)) h))) : ft_V k_Mo_maskOf 0 [some (.inl x0)] [] h R := by
  refine fv_iload_n (ft_d o_Mo_maskOf 0 rfl) rfl rfl ?_
  refine fv_if_ne (tgt := 8) (ft_d o_Mo_maskOf 1 rfl) rfl rfl (fun c => ?_) (fun c => ?_)
  · have w := w.1 c
    refine fv_iconst (ft_d o_Mo_maskOf 4 rfl) rfl rfl ?_
    refine fv_bipush (ft_d o_Mo_maskOf 5 rfl) rfl rfl ?_
    refine fv_iload_n (ft_d o_Mo_maskOf 6 rfl) rfl rfl ?_
    refine fv_isub (ft_d o_Mo_maskOf 7 rfl) rfl ?_
    refine fv_ishl (ft_d o_Mo_maskOf 8 rfl) rfl ?_
    exact fv_ireturn (ft_d o_Mo_maskOf 9 rfl) rfl w
  · have w := w.2 c
    refine fv_iconst (ft_d o_Mo_maskOf 2 rfl) rfl rfl ?_
    refine fv_goto (pc' := 14) (ft_d o_Mo_maskOf 3 rfl) rfl ?_
    exact fv_ireturn (ft_d o_Mo_maskOf 9 rfl) rfl w
set_option maxRecDepth 20000 in
theorem b_Mo_unsigned_0 {x0 : Int} {h : ftH} {R : Option ftV → ftH → Prop} 
    (w : R (some (.inr (.inl (pUn x0)))) h) : ft_V k_Mo_unsigned 0 [some (.inl x0)] [] h R := by
  refine fv_iload_n (ft_d o_Mo_unsigned 0 rfl) rfl rfl ?_
  refine fv_i2l (ft_d o_Mo_unsigned 1 rfl) rfl ?_
  refine fv_ldc2 (v := 4294967295) (z := 4294967295) (ft_d o_Mo_unsigned 2 rfl) rfl (ft_gt 1215 (by decide +kernel) rfl) rfl ?_
  refine fv_land32 (ft_d o_Mo_unsigned 3 rfl) rfl ?_
  exact fv_lreturn (ft_d o_Mo_unsigned 4 rfl) rfl w
set_option maxRecDepth 20000 in
theorem b_Mo_sizeOf_0 {x0 : Int} {h : ftH} {R : Option ftV → ftH → Prop} 
    (w : R (some (.inr (.inl (ft_shlL 1 (ft_sub 32 x0))))) h) : ft_V k_Mo_sizeOf 0 [some (.inl x0)] [] h R := by
  refine fv_lconst (z := 1) (ft_d o_Mo_sizeOf 0 rfl) rfl rfl ?_
  refine fv_bipush (ft_d o_Mo_sizeOf 1 rfl) rfl rfl ?_
  refine fv_iload_n (ft_d o_Mo_sizeOf 2 rfl) rfl rfl ?_
  refine fv_isub (ft_d o_Mo_sizeOf 3 rfl) rfl ?_
  refine fv_lshl (ft_d o_Mo_sizeOf 4 rfl) rfl ?_
  exact fv_lreturn (ft_d o_Mo_sizeOf 5 rfl) rfl w
set_option maxRecDepth 20000 in
theorem b_Mo_valueOf_0 {x1 : Int} {h : ftH} {R : Option ftV → ftH → Prop} 
    (w : ((0 ≤ ft_add 10 (ft_mul 3 x1) ∧ ft_add 10 (ft_mul 3 x1) < 520) ∧ R (some (.inl (h 310 (ft_add 10 (ft_mul 3 x1)).toNat))) h)) : ft_V k_Mo_valueOf 0 [some (.inr (.inr 309)), some (.inl x1)] [] h R := by
  refine fv_aload_n (ft_d o_Mo_valueOf 0 rfl) rfl rfl ?_
  refine fv_getR (b := 310) (ft_d o_Mo_valueOf 1 rfl) rfl fl_Mo_13 sh_309 rfl ly_309_1 ?_
  refine fv_bipush (ft_d o_Mo_valueOf 2 rfl) rfl rfl ?_
  refine fv_iconst (ft_d o_Mo_valueOf 3 rfl) rfl rfl ?_
  refine fv_iload_n (ft_d o_Mo_valueOf 4 rfl) rfl rfl ?_
  refine fv_imul (ft_d o_Mo_valueOf 5 rfl) rfl ?_
  refine fv_iadd (ft_d o_Mo_valueOf 6 rfl) rfl ?_
  refine fv_iald (ft_d o_Mo_valueOf 7 rfl) rfl sh_310 w.1 ?_
  have w := w.2
  exact fv_ireturn (ft_d o_Mo_valueOf 8 rfl) rfl w
set_option maxRecDepth 20000 in
theorem b_Mo_lengthOf_0 {x1 : Int} {h : ftH} {R : Option ftV → ftH → Prop} 
    (w : ((0 ≤ ft_add (ft_add 10 (ft_mul 3 x1)) 1 ∧ ft_add (ft_add 10 (ft_mul 3 x1)) 1 < 520) ∧ R (some (.inl (h 310 (ft_add (ft_add 10 (ft_mul 3 x1)) 1).toNat))) h)) : ft_V k_Mo_lengthOf 0 [some (.inr (.inr 309)), some (.inl x1)] [] h R := by
  refine fv_aload_n (ft_d o_Mo_lengthOf 0 rfl) rfl rfl ?_
  refine fv_getR (b := 310) (ft_d o_Mo_lengthOf 1 rfl) rfl fl_Mo_13 sh_309 rfl ly_309_1 ?_
  refine fv_bipush (ft_d o_Mo_lengthOf 2 rfl) rfl rfl ?_
  refine fv_iconst (ft_d o_Mo_lengthOf 3 rfl) rfl rfl ?_
  refine fv_iload_n (ft_d o_Mo_lengthOf 4 rfl) rfl rfl ?_
  refine fv_imul (ft_d o_Mo_lengthOf 5 rfl) rfl ?_
  refine fv_iadd (ft_d o_Mo_lengthOf 6 rfl) rfl ?_
  refine fv_iconst (ft_d o_Mo_lengthOf 7 rfl) rfl rfl ?_
  refine fv_iadd (ft_d o_Mo_lengthOf 8 rfl) rfl ?_
  refine fv_iald (ft_d o_Mo_lengthOf 9 rfl) rfl sh_310 w.1 ?_
  have w := w.2
  exact fv_ireturn (ft_d o_Mo_lengthOf 10 rfl) rfl w
set_option maxRecDepth 20000 in
theorem b_Mo_hopOf_0 {x1 : Int} {h : ftH} {R : Option ftV → ftH → Prop} 
    (w : ((0 ≤ ft_add (ft_add 10 (ft_mul 3 x1)) 2 ∧ ft_add (ft_add 10 (ft_mul 3 x1)) 2 < 520) ∧ R (some (.inl (h 310 (ft_add (ft_add 10 (ft_mul 3 x1)) 2).toNat))) h)) : ft_V k_Mo_hopOf 0 [some (.inr (.inr 309)), some (.inl x1)] [] h R := by
  refine fv_aload_n (ft_d o_Mo_hopOf 0 rfl) rfl rfl ?_
  refine fv_getR (b := 310) (ft_d o_Mo_hopOf 1 rfl) rfl fl_Mo_13 sh_309 rfl ly_309_1 ?_
  refine fv_bipush (ft_d o_Mo_hopOf 2 rfl) rfl rfl ?_
  refine fv_iconst (ft_d o_Mo_hopOf 3 rfl) rfl rfl ?_
  refine fv_iload_n (ft_d o_Mo_hopOf 4 rfl) rfl rfl ?_
  refine fv_imul (ft_d o_Mo_hopOf 5 rfl) rfl ?_
  refine fv_iadd (ft_d o_Mo_hopOf 6 rfl) rfl ?_
  refine fv_iconst (ft_d o_Mo_hopOf 7 rfl) rfl rfl ?_
  refine fv_iadd (ft_d o_Mo_hopOf 8 rfl) rfl ?_
  refine fv_iald (ft_d o_Mo_hopOf 9 rfl) rfl sh_310 w.1 ?_
  have w := w.2
  exact fv_ireturn (ft_d o_Mo_hopOf 10 rfl) rfl w
set_option maxRecDepth 20000 in
theorem b_Mo_valueIn_0 {x1 : Int} {h : ftH} {R : Option ftV → ftH → Prop} 
    (w : ((0 ≤ ft_add 270 (ft_mul 3 x1) ∧ ft_add 270 (ft_mul 3 x1) < 520) ∧ R (some (.inl (h 310 (ft_add 270 (ft_mul 3 x1)).toNat))) h)) : ft_V k_Mo_valueIn 0 [some (.inr (.inr 309)), some (.inl x1)] [] h R := by
  refine fv_aload_n (ft_d o_Mo_valueIn 0 rfl) rfl rfl ?_
  refine fv_getR (b := 310) (ft_d o_Mo_valueIn 1 rfl) rfl fl_Mo_13 sh_309 rfl ly_309_1 ?_
  refine fv_sipush (ft_d o_Mo_valueIn 2 rfl) rfl rfl ?_
  refine fv_iconst (ft_d o_Mo_valueIn 3 rfl) rfl rfl ?_
  refine fv_iload_n (ft_d o_Mo_valueIn 4 rfl) rfl rfl ?_
  refine fv_imul (ft_d o_Mo_valueIn 5 rfl) rfl ?_
  refine fv_iadd (ft_d o_Mo_valueIn 6 rfl) rfl ?_
  refine fv_iald (ft_d o_Mo_valueIn 7 rfl) rfl sh_310 w.1 ?_
  have w := w.2
  exact fv_ireturn (ft_d o_Mo_valueIn 8 rfl) rfl w
set_option maxRecDepth 20000 in
theorem b_Mo_lengthIn_0 {x1 : Int} {h : ftH} {R : Option ftV → ftH → Prop} 
    (w : ((0 ≤ ft_add (ft_add 270 (ft_mul 3 x1)) 1 ∧ ft_add (ft_add 270 (ft_mul 3 x1)) 1 < 520) ∧ R (some (.inl (h 310 (ft_add (ft_add 270 (ft_mul 3 x1)) 1).toNat))) h)) : ft_V k_Mo_lengthIn 0 [some (.inr (.inr 309)), some (.inl x1)] [] h R := by
  refine fv_aload_n (ft_d o_Mo_lengthIn 0 rfl) rfl rfl ?_
  refine fv_getR (b := 310) (ft_d o_Mo_lengthIn 1 rfl) rfl fl_Mo_13 sh_309 rfl ly_309_1 ?_
  refine fv_sipush (ft_d o_Mo_lengthIn 2 rfl) rfl rfl ?_
  refine fv_iconst (ft_d o_Mo_lengthIn 3 rfl) rfl rfl ?_
  refine fv_iload_n (ft_d o_Mo_lengthIn 4 rfl) rfl rfl ?_
  refine fv_imul (ft_d o_Mo_lengthIn 5 rfl) rfl ?_
  refine fv_iadd (ft_d o_Mo_lengthIn 6 rfl) rfl ?_
  refine fv_iconst (ft_d o_Mo_lengthIn 7 rfl) rfl rfl ?_
  refine fv_iadd (ft_d o_Mo_lengthIn 8 rfl) rfl ?_
  refine fv_iald (ft_d o_Mo_lengthIn 9 rfl) rfl sh_310 w.1 ?_
  have w := w.2
  exact fv_ireturn (ft_d o_Mo_lengthIn 10 rfl) rfl w
set_option maxRecDepth 20000 in
theorem b_Mo_actionIn_0 {x1 : Int} {h : ftH} {R : Option ftV → ftH → Prop} 
    (w : ((0 ≤ ft_add (ft_add 270 (ft_mul 3 x1)) 2 ∧ ft_add (ft_add 270 (ft_mul 3 x1)) 2 < 520) ∧ R (some (.inl (h 310 (ft_add (ft_add 270 (ft_mul 3 x1)) 2).toNat))) h)) : ft_V k_Mo_actionIn 0 [some (.inr (.inr 309)), some (.inl x1)] [] h R := by
  refine fv_aload_n (ft_d o_Mo_actionIn 0 rfl) rfl rfl ?_
  refine fv_getR (b := 310) (ft_d o_Mo_actionIn 1 rfl) rfl fl_Mo_13 sh_309 rfl ly_309_1 ?_
  refine fv_sipush (ft_d o_Mo_actionIn 2 rfl) rfl rfl ?_
  refine fv_iconst (ft_d o_Mo_actionIn 3 rfl) rfl rfl ?_
  refine fv_iload_n (ft_d o_Mo_actionIn 4 rfl) rfl rfl ?_
  refine fv_imul (ft_d o_Mo_actionIn 5 rfl) rfl ?_
  refine fv_iadd (ft_d o_Mo_actionIn 6 rfl) rfl ?_
  refine fv_iconst (ft_d o_Mo_actionIn 7 rfl) rfl rfl ?_
  refine fv_iadd (ft_d o_Mo_actionIn 8 rfl) rfl ?_
  refine fv_iald (ft_d o_Mo_actionIn 9 rfl) rfl sh_310 w.1 ?_
  have w := w.2
  exact fv_ireturn (ft_d o_Mo_actionIn 10 rfl) rfl w
set_option maxRecDepth 20000 in
theorem b_Mo_seenAt_0 {x1 : Int} {h : ftH} {R : Option ftV → ftH → Prop} 
    (w : ((0 ≤ ft_add 190 (ft_mul 2 x1) ∧ ft_add 190 (ft_mul 2 x1) < 520) ∧ R (some (.inl (h 310 (ft_add 190 (ft_mul 2 x1)).toNat))) h)) : ft_V k_Mo_seenAt 0 [some (.inr (.inr 309)), some (.inl x1)] [] h R := by
  refine fv_aload_n (ft_d o_Mo_seenAt 0 rfl) rfl rfl ?_
  refine fv_getR (b := 310) (ft_d o_Mo_seenAt 1 rfl) rfl fl_Mo_13 sh_309 rfl ly_309_1 ?_
  refine fv_sipush (ft_d o_Mo_seenAt 2 rfl) rfl rfl ?_
  refine fv_iconst (ft_d o_Mo_seenAt 3 rfl) rfl rfl ?_
  refine fv_iload_n (ft_d o_Mo_seenAt 4 rfl) rfl rfl ?_
  refine fv_imul (ft_d o_Mo_seenAt 5 rfl) rfl ?_
  refine fv_iadd (ft_d o_Mo_seenAt 6 rfl) rfl ?_
  refine fv_iald (ft_d o_Mo_seenAt 7 rfl) rfl sh_310 w.1 ?_
  have w := w.2
  exact fv_ireturn (ft_d o_Mo_seenAt 8 rfl) rfl w
set_option maxRecDepth 20000 in
theorem b_Mo_timesAt_0 {x1 : Int} {h : ftH} {R : Option ftV → ftH → Prop} 
    (w : ((0 ≤ ft_add (ft_add 190 (ft_mul 2 x1)) 1 ∧ ft_add (ft_add 190 (ft_mul 2 x1)) 1 < 520) ∧ R (some (.inl (h 310 (ft_add (ft_add 190 (ft_mul 2 x1)) 1).toNat))) h)) : ft_V k_Mo_timesAt 0 [some (.inr (.inr 309)), some (.inl x1)] [] h R := by
  refine fv_aload_n (ft_d o_Mo_timesAt 0 rfl) rfl rfl ?_
  refine fv_getR (b := 310) (ft_d o_Mo_timesAt 1 rfl) rfl fl_Mo_13 sh_309 rfl ly_309_1 ?_
  refine fv_sipush (ft_d o_Mo_timesAt 2 rfl) rfl rfl ?_
  refine fv_iconst (ft_d o_Mo_timesAt 3 rfl) rfl rfl ?_
  refine fv_iload_n (ft_d o_Mo_timesAt 4 rfl) rfl rfl ?_
  refine fv_imul (ft_d o_Mo_timesAt 5 rfl) rfl ?_
  refine fv_iadd (ft_d o_Mo_timesAt 6 rfl) rfl ?_
  refine fv_iconst (ft_d o_Mo_timesAt 7 rfl) rfl rfl ?_
  refine fv_iadd (ft_d o_Mo_timesAt 8 rfl) rfl ?_
  refine fv_iald (ft_d o_Mo_timesAt 9 rfl) rfl sh_310 w.1 ?_
  have w := w.2
  exact fv_ireturn (ft_d o_Mo_timesAt 10 rfl) rfl w
set_option maxRecDepth 20000 in
theorem b_Mo_at_0 {x0 : Int} {x1 : Int} {x2 : Int} {h : ftH} {R : Option ftV → ftH → Prop} 
    (w : R (some (.inl (ft_add (ft_mul 61 (ft_add (ft_mul 2 x0) x1)) x2))) h) : ft_V k_Mo_at 0 [some (.inl x0), some (.inl x1), some (.inl x2)] [] h R := by
  refine fv_bipush (ft_d o_Mo_at 0 rfl) rfl rfl ?_
  refine fv_iconst (ft_d o_Mo_at 1 rfl) rfl rfl ?_
  refine fv_iload_n (ft_d o_Mo_at 2 rfl) rfl rfl ?_
  refine fv_imul (ft_d o_Mo_at 3 rfl) rfl ?_
  refine fv_iload_n (ft_d o_Mo_at 4 rfl) rfl rfl ?_
  refine fv_iadd (ft_d o_Mo_at 5 rfl) rfl ?_
  refine fv_imul (ft_d o_Mo_at 6 rfl) rfl ?_
  refine fv_iload_n (ft_d o_Mo_at 7 rfl) rfl rfl ?_
  refine fv_iadd (ft_d o_Mo_at 8 rfl) rfl ?_
  exact fv_ireturn (ft_d o_Mo_at 9 rfl) rfl w
set_option maxRecDepth 20000 in
theorem b_Mo_here_0  {h : ftH} {R : Option ftV → ftH → Prop} 
    (w : ((h 309 34 ≤ h 309 36 → R (some (.inl ((-1)))) h) ∧ (¬ (h 309 34 ≤ h 309 36) → ((0 ≤ h 309 36 ∧ h 309 36 < 2200) ∧ R (some (.inl (h 330 (h 309 36).toNat))) h)))) : ft_V k_Mo_here 0 [some (.inr (.inr 309))] [] h R := by
  refine fv_aload_n (ft_d o_Mo_here 0 rfl) rfl rfl ?_
  refine fv_getI (ft_d o_Mo_here 1 rfl) rfl fl_Mo_379 sh_309 rfl ?_
  refine fv_aload_n (ft_d o_Mo_here 2 rfl) rfl rfl ?_
  refine fv_getI (ft_d o_Mo_here 3 rfl) rfl fl_Mo_376 sh_309 rfl ?_
  refine fv_icmp_ge (tgt := 23) (ft_d o_Mo_here 4 rfl) rfl rfl (fun c => ?_) (fun c => ?_)
  · have w := w.1 c
    refine fv_iconst (ft_d o_Mo_here 11 rfl) rfl rfl ?_
    exact fv_ireturn (ft_d o_Mo_here 12 rfl) rfl w
  · have w := w.2 c
    refine fv_aload_n (ft_d o_Mo_here 5 rfl) rfl rfl ?_
    refine fv_getR (b := 330) (ft_d o_Mo_here 6 rfl) rfl fl_Mo_74 sh_309 rfl ly_309_33 ?_
    refine fv_aload_n (ft_d o_Mo_here 7 rfl) rfl rfl ?_
    refine fv_getI (ft_d o_Mo_here 8 rfl) rfl fl_Mo_379 sh_309 rfl ?_
    refine fv_iald (ft_d o_Mo_here 9 rfl) rfl sh_330 w.1 ?_
    have w := w.2
    refine fv_goto (pc' := 24) (ft_d o_Mo_here 10 rfl) rfl ?_
    exact fv_ireturn (ft_d o_Mo_here 12 rfl) rfl w
set_option maxRecDepth 20000 in
theorem b_Mo_isWord_0 {x1 : Int} {h : ftH} {R : Option ftV → ftH → Prop} 
    (w : ((¬ (h 309 43 = 0) → R (some (.inl 0)) h) ∧ (h 309 43 = 0 → ((¬ (h 309 37 = 1) → R (some (.inl 0)) h) ∧ (h 309 37 = 1 → ((¬ (h 309 39 = x1) → R (some (.inl 0)) h) ∧ (h 309 39 = x1 → R (some (.inl 1)) h))))))) : ft_V k_Mo_isWord 0 [some (.inr (.inr 309)), some (.inl x1)] [] h R := by
  refine fv_aload_n (ft_d o_Mo_isWord 0 rfl) rfl rfl ?_
  refine fv_getI (ft_d o_Mo_isWord 1 rfl) rfl fl_Mo_414 sh_309 rfl ?_
  refine fv_if_ne (tgt := 27) (ft_d o_Mo_isWord 2 rfl) rfl rfl (fun c => ?_) (fun c => ?_)
  · have w := w.1 c
    refine fv_iconst (ft_d o_Mo_isWord 13 rfl) rfl rfl ?_
    exact fv_zreturn (ft_d o_Mo_isWord 14 rfl) rfl (Or.inl rfl) w
  · have w := w.2 c
    refine fv_aload_n (ft_d o_Mo_isWord 3 rfl) rfl rfl ?_
    refine fv_getI (ft_d o_Mo_isWord 4 rfl) rfl fl_Mo_391 sh_309 rfl ?_
    refine fv_iconst (ft_d o_Mo_isWord 5 rfl) rfl rfl ?_
    refine fv_icmp_ne (tgt := 27) (ft_d o_Mo_isWord 6 rfl) rfl rfl (fun c => ?_) (fun c => ?_)
    · have w := w.1 c
      refine fv_iconst (ft_d o_Mo_isWord 13 rfl) rfl rfl ?_
      exact fv_zreturn (ft_d o_Mo_isWord 14 rfl) rfl (Or.inl rfl) w
    · have w := w.2 c
      refine fv_aload_n (ft_d o_Mo_isWord 7 rfl) rfl rfl ?_
      refine fv_getI (ft_d o_Mo_isWord 8 rfl) rfl fl_Mo_401 sh_309 rfl ?_
      refine fv_iload_n (ft_d o_Mo_isWord 9 rfl) rfl rfl ?_
      refine fv_icmp_ne (tgt := 27) (ft_d o_Mo_isWord 10 rfl) rfl rfl (fun c => ?_) (fun c => ?_)
      · have w := w.1 c
        refine fv_iconst (ft_d o_Mo_isWord 13 rfl) rfl rfl ?_
        exact fv_zreturn (ft_d o_Mo_isWord 14 rfl) rfl (Or.inl rfl) w
      · have w := w.2 c
        refine fv_iconst (ft_d o_Mo_isWord 11 rfl) rfl rfl ?_
        refine fv_goto (pc' := 28) (ft_d o_Mo_isWord 12 rfl) rfl ?_
        exact fv_zreturn (ft_d o_Mo_isWord 14 rfl) rfl (Or.inr rfl) w
set_option maxRecDepth 20000 in
theorem b_Ch_bitOf_0 {x0 : Int} {h : ftH} {R : Option ftV → ftH → Prop} 
    (w : R (some (.inr (.inl (ft_shlL 1 (ft_sub 59 x0))))) h) : ft_V k_Ch_bitOf 0 [some (.inl x0)] [] h R := by
  refine fv_lconst (z := 1) (ft_d o_Ch_bitOf 0 rfl) rfl rfl ?_
  refine fv_bipush (ft_d o_Ch_bitOf 1 rfl) rfl rfl ?_
  refine fv_iload_n (ft_d o_Ch_bitOf 2 rfl) rfl rfl ?_
  refine fv_isub (ft_d o_Ch_bitOf 3 rfl) rfl ?_
  refine fv_lshl (ft_d o_Ch_bitOf 4 rfl) rfl ?_
  exact fv_lreturn (ft_d o_Ch_bitOf 5 rfl) rfl w
set_option maxRecDepth 20000 in
theorem b_Ch_isBetter_0 {x0 : Int} {x1 : Int} {x3 : Int} {x4 : Int} {h : ftH} {R : Option ftV → ftH → Prop} 
    (w : ((x3 < x0 → R (some (.inl 1)) h) ∧ (¬ (x3 < x0) → ((¬ (x0 = x3) → R (some (.inl 0)) h) ∧ (x0 = x3 → ((x1 ≤ x4 → R (some (.inl 0)) h) ∧ (¬ (x1 ≤ x4) → R (some (.inl 1)) h))))))) : ft_V k_Ch_isBetter 0 [some (.inl x0), some (.inr (.inl x1)), none, some (.inl x3), some (.inr (.inl x4)), none] [] h R := by
  refine fv_iload_n (ft_d o_Ch_isBetter 0 rfl) rfl rfl ?_
  refine fv_iload_n (ft_d o_Ch_isBetter 1 rfl) rfl rfl ?_
  refine fv_icmp_gt (tgt := 17) (ft_d o_Ch_isBetter 2 rfl) rfl rfl (fun c => ?_) (fun c => ?_)
  · have w := w.1 c
    refine fv_iconst (ft_d o_Ch_isBetter 10 rfl) rfl rfl ?_
    refine fv_goto (pc' := 22) (ft_d o_Ch_isBetter 11 rfl) rfl ?_
    exact fv_zreturn (ft_d o_Ch_isBetter 13 rfl) rfl (Or.inr rfl) w
  · have w := w.2 c
    refine fv_iload_n (ft_d o_Ch_isBetter 3 rfl) rfl rfl ?_
    refine fv_iload_n (ft_d o_Ch_isBetter 4 rfl) rfl rfl ?_
    refine fv_icmp_ne (tgt := 21) (ft_d o_Ch_isBetter 5 rfl) rfl rfl (fun c => ?_) (fun c => ?_)
    · have w := w.1 c
      refine fv_iconst (ft_d o_Ch_isBetter 12 rfl) rfl rfl ?_
      exact fv_zreturn (ft_d o_Ch_isBetter 13 rfl) rfl (Or.inl rfl) w
    · have w := w.2 c
      refine fv_lload_n (ft_d o_Ch_isBetter 6 rfl) rfl rfl ?_
      refine fv_lload (ft_d o_Ch_isBetter 7 rfl) rfl rfl ?_
      refine fv_lcmp_le (tgt := 21) (ft_d o_Ch_isBetter 8 rfl) (ft_d o_Ch_isBetter 9 rfl) rfl rfl (fun c => ?_) (fun c => ?_)
      · have w := w.1 c
        refine fv_iconst (ft_d o_Ch_isBetter 12 rfl) rfl rfl ?_
        exact fv_zreturn (ft_d o_Ch_isBetter 13 rfl) rfl (Or.inl rfl) w
      · have w := w.2 c
        refine fv_iconst (ft_d o_Ch_isBetter 10 rfl) rfl rfl ?_
        refine fv_goto (pc' := 22) (ft_d o_Ch_isBetter 11 rfl) rfl ?_
        exact fv_zreturn (ft_d o_Ch_isBetter 13 rfl) rfl (Or.inr rfl) w
set_option maxRecDepth 20000 in
theorem b_Co_setOf_0 {x1 : Int} {h : ftH} {R : Option ftV → ftH → Prop} 
    (w : ((0 ≤ x1 ∧ x1 < 360) ∧ ((¬ (h 128 x1.toNat = 0) → ((0 ≤ x1 ∧ x1 < 360) ∧ ((h 129 x1.toNat = 0 → ((0 ≤ x1 ∧ x1 < 360) ∧ R (some (.inl (h 130 x1.toNat))) h)) ∧ (¬ (h 129 x1.toNat = 0) → ((0 ≤ x1 ∧ x1 < 360) ∧ R (some (.inl (h 129 x1.toNat))) h))))) ∧ (h 128 x1.toNat = 0 → ((0 ≤ x1 ∧ x1 < 360) ∧ R (some (.inl (ft_shl 1 (h 127 x1.toNat)))) h))))) : ft_V k_Co_setOf 0 [some (.inr (.inr 122)), some (.inl x1)] [] h R := by
  refine fv_aload_n (ft_d o_Co_setOf 0 rfl) rfl rfl ?_
  refine fv_getR (b := 128) (ft_d o_Co_setOf 1 rfl) rfl fl_Co_28 sh_122 rfl ly_122_5 ?_
  refine fv_iload_n (ft_d o_Co_setOf 2 rfl) rfl rfl ?_
  refine fv_zald (ft_d o_Co_setOf 3 rfl) rfl sh_128 w.1 ?_
  have w := w.2
  refine fv_if_ne (tgt := 18) (ft_d o_Co_setOf 4 rfl) rfl rfl (fun c => ?_) (fun c => ?_)
  · have w := w.1 c
    refine fv_aload_n (ft_d o_Co_setOf 12 rfl) rfl rfl ?_
    refine fv_getR (b := 129) (ft_d o_Co_setOf 13 rfl) rfl fl_Co_32 sh_122 rfl ly_122_6 ?_
    refine fv_iload_n (ft_d o_Co_setOf 14 rfl) rfl rfl ?_
    refine fv_iald (ft_d o_Co_setOf 15 rfl) rfl sh_129 w.1 ?_
    have w := w.2
    refine fv_if_eq (tgt := 36) (ft_d o_Co_setOf 16 rfl) rfl rfl (fun c => ?_) (fun c => ?_)
    · have w := w.1 c
      refine fv_aload_n (ft_d o_Co_setOf 22 rfl) rfl rfl ?_
      refine fv_getR (b := 130) (ft_d o_Co_setOf 23 rfl) rfl fl_Co_35 sh_122 rfl ly_122_7 ?_
      refine fv_iload_n (ft_d o_Co_setOf 24 rfl) rfl rfl ?_
      refine fv_iald (ft_d o_Co_setOf 25 rfl) rfl sh_130 w.1 ?_
      have w := w.2
      exact fv_ireturn (ft_d o_Co_setOf 26 rfl) rfl w
    · have w := w.2 c
      refine fv_aload_n (ft_d o_Co_setOf 17 rfl) rfl rfl ?_
      refine fv_getR (b := 129) (ft_d o_Co_setOf 18 rfl) rfl fl_Co_32 sh_122 rfl ly_122_6 ?_
      refine fv_iload_n (ft_d o_Co_setOf 19 rfl) rfl rfl ?_
      refine fv_iald (ft_d o_Co_setOf 20 rfl) rfl sh_129 w.1 ?_
      have w := w.2
      refine fv_goto (pc' := 42) (ft_d o_Co_setOf 21 rfl) rfl ?_
      exact fv_ireturn (ft_d o_Co_setOf 26 rfl) rfl w
  · have w := w.2 c
    refine fv_iconst (ft_d o_Co_setOf 5 rfl) rfl rfl ?_
    refine fv_aload_n (ft_d o_Co_setOf 6 rfl) rfl rfl ?_
    refine fv_getR (b := 127) (ft_d o_Co_setOf 7 rfl) rfl fl_Co_25 sh_122 rfl ly_122_4 ?_
    refine fv_iload_n (ft_d o_Co_setOf 8 rfl) rfl rfl ?_
    refine fv_iald (ft_d o_Co_setOf 9 rfl) rfl sh_127 w.1 ?_
    have w := w.2
    refine fv_ishl (ft_d o_Co_setOf 10 rfl) rfl ?_
    exact fv_ireturn (ft_d o_Co_setOf 11 rfl) rfl w
set_option maxRecDepth 20000 in
theorem b_Cv_runEnd_0 {r0 : Nat} {x1 : Int} {h : ftH} {R : Option ftV → ftH → Prop} (hr0 : ft_sh r0 = some (.inl 2))
    (w : ((h r0 5 ≤ ft_add x1 1 → R (some (.inr (.inl 4294967296))) h) ∧ (¬ (h r0 5 ≤ ft_add x1 1) → ((0 ≤ ft_add x1 1 ∧ ft_add x1 1 < (ft_ln (r0 + 5))) ∧ R (some (.inr (.inl (h (r0 + 5) (ft_add x1 1).toNat)))) h)))) : ft_V k_Cv_runEnd 0 [some (.inr (.inr r0)), some (.inl x1)] [] h R := by
  refine fv_iload_n (ft_d o_Cv_runEnd 0 rfl) rfl rfl ?_
  refine fv_iconst (ft_d o_Cv_runEnd 1 rfl) rfl rfl ?_
  refine fv_iadd (ft_d o_Cv_runEnd 2 rfl) rfl ?_
  refine fv_aload_n (ft_d o_Cv_runEnd 3 rfl) rfl rfl ?_
  refine fv_getI (ft_d o_Cv_runEnd 4 rfl) rfl fl_Cv_31 hr0 rfl ?_
  refine fv_icmp_ge (tgt := 21) (ft_d o_Cv_runEnd 5 rfl) rfl rfl (fun c => ?_) (fun c => ?_)
  · have w := w.1 c
    refine fv_ldc2 (v := 4294967296) (z := 4294967296) (ft_d o_Cv_runEnd 13 rfl) rfl (ft_gt 664 (by decide +kernel) rfl) rfl ?_
    exact fv_lreturn (ft_d o_Cv_runEnd 14 rfl) rfl w
  · have w := w.2 c
    refine fv_aload_n (ft_d o_Cv_runEnd 6 rfl) rfl rfl ?_
    refine fv_getR (b := r0 + 5) (ft_d o_Cv_runEnd 7 rfl) rfl fl_Cv_25 hr0 rfl (lyc_2_3 hr0) ?_
    refine fv_iload_n (ft_d o_Cv_runEnd 8 rfl) rfl rfl ?_
    refine fv_iconst (ft_d o_Cv_runEnd 9 rfl) rfl rfl ?_
    refine fv_iadd (ft_d o_Cv_runEnd 10 rfl) rfl ?_
    refine fv_lald (ft_d o_Cv_runEnd 11 rfl) rfl (shc_2_3 hr0) w.1 ?_
    have w := w.2
    refine fv_goto (pc' := 24) (ft_d o_Cv_runEnd 12 rfl) rfl ?_
    exact fv_lreturn (ft_d o_Cv_runEnd 14 rfl) rfl w
set_option maxRecDepth 20000 in
theorem b_Cv_innermost_0 {r0 : Nat} {h : ftH} {R : Option ftV → ftH → Prop} (hr0 : ft_sh r0 = some (.inl 2))
    (w : ((h r0 8 ≤ 0 → R (some (.inl ((-1)))) h) ∧ (¬ (h r0 8 ≤ 0) → ((0 ≤ ft_sub (h r0 8) 1 ∧ ft_sub (h r0 8) 1 < 33) ∧ R (some (.inl (h (r0 + 1) (ft_sub (h r0 8) 1).toNat))) h)))) : ft_V k_Cv_innermost 0 [some (.inr (.inr r0))] [] h R := by
  refine fv_aload_n (ft_d o_Cv_innermost 0 rfl) rfl rfl ?_
  refine fv_getI (ft_d o_Cv_innermost 1 rfl) rfl fl_Cv_38 hr0 rfl ?_
  refine fv_if_le (tgt := 21) (ft_d o_Cv_innermost 2 rfl) rfl rfl (fun c => ?_) (fun c => ?_)
  · have w := w.1 c
    refine fv_iconst (ft_d o_Cv_innermost 11 rfl) rfl rfl ?_
    exact fv_ireturn (ft_d o_Cv_innermost 12 rfl) rfl w
  · have w := w.2 c
    refine fv_aload_n (ft_d o_Cv_innermost 3 rfl) rfl rfl ?_
    refine fv_getR (b := r0 + 1) (ft_d o_Cv_innermost 4 rfl) rfl fl_Cv_9 hr0 rfl (lyc_2_7 hr0) ?_
    refine fv_aload_n (ft_d o_Cv_innermost 5 rfl) rfl rfl ?_
    refine fv_getI (ft_d o_Cv_innermost 6 rfl) rfl fl_Cv_38 hr0 rfl ?_
    refine fv_iconst (ft_d o_Cv_innermost 7 rfl) rfl rfl ?_
    refine fv_isub (ft_d o_Cv_innermost 8 rfl) rfl ?_
    refine fv_iald (ft_d o_Cv_innermost 9 rfl) rfl (shc_2_7 hr0) w.1 ?_
    have w := w.2
    refine fv_goto (pc' := 22) (ft_d o_Cv_innermost 10 rfl) rfl ?_
    exact fv_ireturn (ft_d o_Cv_innermost 12 rfl) rfl w
set_option maxRecDepth 20000 in
theorem b_St_room_0 {r0 : Nat} {h : ftH} {R : Option ftV → ftH → Prop} (hr0 : ft_sh r0 = some (.inl 6))
    (w : R (some (.inl (ft_mul 2 (h r0 0)))) h) : ft_V k_St_room 0 [some (.inr (.inr r0))] [] h R := by
  refine fv_iconst (ft_d o_St_room 0 rfl) rfl rfl ?_
  refine fv_aload_n (ft_d o_St_room 1 rfl) rfl rfl ?_
  refine fv_getI (ft_d o_St_room 2 rfl) rfl fl_St_9 hr0 rfl ?_
  refine fv_imul (ft_d o_St_room 3 rfl) rfl ?_
  exact fv_ireturn (ft_d o_St_room 4 rfl) rfl w
set_option maxRecDepth 20000 in
theorem b_Ta_isNumber_0 {x1 : Int} {x2 : Int} {h : ftH} {R : Option ftV → ftH → Prop} 
    (w : ((¬ (h 113 4 = 2) → R (some (.inl 0)) h) ∧ (h 113 4 = 2 → ((h 113 5 < x1 → R (some (.inl 0)) h) ∧ (¬ (h 113 5 < x1) → ((x2 < h 113 5 → R (some (.inl 0)) h) ∧ (¬ (x2 < h 113 5) → R (some (.inl 1)) h))))))) : ft_V k_Ta_isNumber 0 [some (.inr (.inr 113)), some (.inl x1), some (.inl x2)] [] h R := by
  refine fv_aload_n (ft_d o_Ta_isNumber 0 rfl) rfl rfl ?_
  refine fv_getI (ft_d o_Ta_isNumber 1 rfl) rfl fl_Ta_41 sh_113 rfl ?_
  refine fv_iconst (ft_d o_Ta_isNumber 2 rfl) rfl rfl ?_
  refine fv_icmp_ne (tgt := 28) (ft_d o_Ta_isNumber 3 rfl) rfl rfl (fun c => ?_) (fun c => ?_)
  · have w := w.1 c
    refine fv_iconst (ft_d o_Ta_isNumber 14 rfl) rfl rfl ?_
    exact fv_zreturn (ft_d o_Ta_isNumber 15 rfl) rfl (Or.inl rfl) w
  · have w := w.2 c
    refine fv_aload_n (ft_d o_Ta_isNumber 4 rfl) rfl rfl ?_
    refine fv_getI (ft_d o_Ta_isNumber 5 rfl) rfl fl_Ta_33 sh_113 rfl ?_
    refine fv_iload_n (ft_d o_Ta_isNumber 6 rfl) rfl rfl ?_
    refine fv_icmp_lt (tgt := 28) (ft_d o_Ta_isNumber 7 rfl) rfl rfl (fun c => ?_) (fun c => ?_)
    · have w := w.1 c
      refine fv_iconst (ft_d o_Ta_isNumber 14 rfl) rfl rfl ?_
      exact fv_zreturn (ft_d o_Ta_isNumber 15 rfl) rfl (Or.inl rfl) w
    · have w := w.2 c
      refine fv_aload_n (ft_d o_Ta_isNumber 8 rfl) rfl rfl ?_
      refine fv_getI (ft_d o_Ta_isNumber 9 rfl) rfl fl_Ta_33 sh_113 rfl ?_
      refine fv_iload_n (ft_d o_Ta_isNumber 10 rfl) rfl rfl ?_
      refine fv_icmp_gt (tgt := 28) (ft_d o_Ta_isNumber 11 rfl) rfl rfl (fun c => ?_) (fun c => ?_)
      · have w := w.1 c
        refine fv_iconst (ft_d o_Ta_isNumber 14 rfl) rfl rfl ?_
        exact fv_zreturn (ft_d o_Ta_isNumber 15 rfl) rfl (Or.inl rfl) w
      · have w := w.2 c
        refine fv_iconst (ft_d o_Ta_isNumber 12 rfl) rfl rfl ?_
        refine fv_goto (pc' := 29) (ft_d o_Ta_isNumber 13 rfl) rfl ?_
        exact fv_zreturn (ft_d o_Ta_isNumber 15 rfl) rfl (Or.inr rfl) w
set_option maxRecDepth 20000 in
theorem b_Ta_isLetter_0 {x0 : Int} {h : ftH} {R : Option ftV → ftH → Prop} 
    (w : ((x0 < 97 → R (some (.inl 0)) h) ∧ (¬ (x0 < 97) → ((122 < x0 → R (some (.inl 0)) h) ∧ (¬ (122 < x0) → R (some (.inl 1)) h))))) : ft_V k_Ta_isLetter 0 [some (.inl x0)] [] h R := by
  refine fv_iload_n (ft_d o_Ta_isLetter 0 rfl) rfl rfl ?_
  refine fv_bipush (ft_d o_Ta_isLetter 1 rfl) rfl rfl ?_
  refine fv_icmp_lt (tgt := 16) (ft_d o_Ta_isLetter 2 rfl) rfl rfl (fun c => ?_) (fun c => ?_)
  · have w := w.1 c
    refine fv_iconst (ft_d o_Ta_isLetter 8 rfl) rfl rfl ?_
    exact fv_zreturn (ft_d o_Ta_isLetter 9 rfl) rfl (Or.inl rfl) w
  · have w := w.2 c
    refine fv_iload_n (ft_d o_Ta_isLetter 3 rfl) rfl rfl ?_
    refine fv_bipush (ft_d o_Ta_isLetter 4 rfl) rfl rfl ?_
    refine fv_icmp_gt (tgt := 16) (ft_d o_Ta_isLetter 5 rfl) rfl rfl (fun c => ?_) (fun c => ?_)
    · have w := w.1 c
      refine fv_iconst (ft_d o_Ta_isLetter 8 rfl) rfl rfl ?_
      exact fv_zreturn (ft_d o_Ta_isLetter 9 rfl) rfl (Or.inl rfl) w
    · have w := w.2 c
      refine fv_iconst (ft_d o_Ta_isLetter 6 rfl) rfl rfl ?_
      refine fv_goto (pc' := 17) (ft_d o_Ta_isLetter 7 rfl) rfl ?_
      exact fv_zreturn (ft_d o_Ta_isLetter 9 rfl) rfl (Or.inr rfl) w
set_option maxRecDepth 20000 in
theorem b_Ta_isDigit_0 {x0 : Int} {h : ftH} {R : Option ftV → ftH → Prop} 
    (w : ((x0 < 48 → R (some (.inl 0)) h) ∧ (¬ (x0 < 48) → ((57 < x0 → R (some (.inl 0)) h) ∧ (¬ (57 < x0) → R (some (.inl 1)) h))))) : ft_V k_Ta_isDigit 0 [some (.inl x0)] [] h R := by
  refine fv_iload_n (ft_d o_Ta_isDigit 0 rfl) rfl rfl ?_
  refine fv_bipush (ft_d o_Ta_isDigit 1 rfl) rfl rfl ?_
  refine fv_icmp_lt (tgt := 16) (ft_d o_Ta_isDigit 2 rfl) rfl rfl (fun c => ?_) (fun c => ?_)
  · have w := w.1 c
    refine fv_iconst (ft_d o_Ta_isDigit 8 rfl) rfl rfl ?_
    exact fv_zreturn (ft_d o_Ta_isDigit 9 rfl) rfl (Or.inl rfl) w
  · have w := w.2 c
    refine fv_iload_n (ft_d o_Ta_isDigit 3 rfl) rfl rfl ?_
    refine fv_bipush (ft_d o_Ta_isDigit 4 rfl) rfl rfl ?_
    refine fv_icmp_gt (tgt := 16) (ft_d o_Ta_isDigit 5 rfl) rfl rfl (fun c => ?_) (fun c => ?_)
    · have w := w.1 c
      refine fv_iconst (ft_d o_Ta_isDigit 8 rfl) rfl rfl ?_
      exact fv_zreturn (ft_d o_Ta_isDigit 9 rfl) rfl (Or.inl rfl) w
    · have w := w.2 c
      refine fv_iconst (ft_d o_Ta_isDigit 6 rfl) rfl rfl ?_
      refine fv_goto (pc' := 17) (ft_d o_Ta_isDigit 7 rfl) rfl ?_
      exact fv_zreturn (ft_d o_Ta_isDigit 9 rfl) rfl (Or.inr rfl) w
