/-! printed by wip/whole/gen/gen10.py: shapes of single cells, layout of classes with many objects -/
theorem ft_mm {pre st st0 : List ftV} (h : st0 = pre ++ st) : ∀ v ∈ st, v ∈ st0 := fun v hv => by rw [h]; exact List.mem_append_right _ hv
theorem ft_ln_all : ∀ k, k < 333 → ft_ln k < 2147483648 := by decide +kernel
theorem ft_len : ft_shapes.length = 333 := by decide +kernel
theorem ft_ln_lt (k : Nat) : ft_ln k < 2147483648 := by
  by_cases c : k < 333
  · exact ft_ln_all k c
  · have : ft_sh k = none := List.getElem?_eq_none (by rw [ft_len]; omega)
    unfold ft_ln
    rw [this]
    exact Nat.le_of_ble_eq_true rfl
theorem ft_sh_lt {k : Nat} {x : Nat ⊕ Nat × Nat} (h : ft_sh k = some x) : k < 333 := by
  by_cases c : k < 333
  · exact c
  · have : ft_sh k = none := List.getElem?_eq_none (by rw [ft_len]; omega)
    rw [this] at h
    cases h
theorem sh_0 : ft_sh 0 = some (.inl 10) := by decide +kernel
theorem sh_1 : ft_sh 1 = some (.inl 6) := by decide +kernel
theorem sh_2 : ft_sh 2 = some (.inl 4) := by decide +kernel
theorem sh_4 : ft_sh 4 = some (.inr (0, 60)) := by decide +kernel
theorem sh_5 : ft_sh 5 = some (.inl 4) := by decide +kernel
theorem sh_7 : ft_sh 7 = some (.inr (0, 80)) := by decide +kernel
theorem sh_8 : ft_sh 8 = some (.inl 9) := by decide +kernel
theorem sh_9 : ft_sh 9 = some (.inr (1, 40)) := by decide +kernel
theorem sh_10 : ft_sh 10 = some (.inr (0, 40)) := by decide +kernel
theorem sh_11 : ft_sh 11 = some (.inr (1, 5)) := by decide +kernel
theorem sh_12 : ft_sh 12 = some (.inl 6) := by decide +kernel
theorem sh_23 : ft_sh 23 = some (.inl 3) := by decide +kernel
theorem sh_24 : ft_sh 24 = some (.inr (4, 8)) := by decide +kernel
theorem sh_113 : ft_sh 113 = some (.inl 8) := by decide +kernel
theorem sh_114 : ft_sh 114 = some (.inr (2, 2200)) := by decide +kernel
theorem sh_115 : ft_sh 115 = some (.inl 2) := by decide +kernel
theorem sh_117 : ft_sh 117 = some (.inr (0, 60)) := by decide +kernel
theorem sh_119 : ft_sh 119 = some (.inr (1, 60)) := by decide +kernel
theorem sh_120 : ft_sh 120 = some (.inr (1, 121)) := by decide +kernel
theorem sh_121 : ft_sh 121 = some (.inr (0, 121)) := by decide +kernel
theorem sh_122 : ft_sh 122 = some (.inl 1) := by decide +kernel
theorem sh_123 : ft_sh 123 = some (.inr (1, 360)) := by decide +kernel
theorem sh_124 : ft_sh 124 = some (.inr (0, 360)) := by decide +kernel
theorem sh_125 : ft_sh 125 = some (.inr (0, 360)) := by decide +kernel
theorem sh_126 : ft_sh 126 = some (.inr (0, 360)) := by decide +kernel
theorem sh_127 : ft_sh 127 = some (.inr (0, 360)) := by decide +kernel
theorem sh_128 : ft_sh 128 = some (.inr (3, 360)) := by decide +kernel
theorem sh_129 : ft_sh 129 = some (.inr (0, 360)) := by decide +kernel
theorem sh_130 : ft_sh 130 = some (.inr (0, 360)) := by decide +kernel
theorem sh_131 : ft_sh 131 = some (.inr (0, 360)) := by decide +kernel
theorem sh_132 : ft_sh 132 = some (.inr (0, 360)) := by decide +kernel
theorem sh_133 : ft_sh 133 = some (.inl 4) := by decide +kernel
theorem sh_136 : ft_sh 136 = some (.inl 2) := by decide +kernel
theorem sh_138 : ft_sh 138 = some (.inr (0, 60)) := by decide +kernel
theorem sh_143 : ft_sh 143 = some (.inl 0) := by decide +kernel
theorem sh_144 : ft_sh 144 = some (.inr (0, 60)) := by decide +kernel
theorem sh_145 : ft_sh 145 = some (.inl 4) := by decide +kernel
theorem sh_147 : ft_sh 147 = some (.inr (0, 60)) := by decide +kernel
theorem sh_148 : ft_sh 148 = some (.inr (5, 68)) := by decide +kernel
theorem sh_217 : ft_sh 217 = some (.inr (6, 68)) := by decide +kernel
theorem sh_286 : ft_sh 286 = some (.inr (0, 34)) := by decide +kernel
theorem sh_287 : ft_sh 287 = some (.inr (0, 61)) := by decide +kernel
theorem sh_288 : ft_sh 288 = some (.inr (1, 61)) := by decide +kernel
theorem sh_289 : ft_sh 289 = some (.inl 7) := by decide +kernel
theorem sh_290 : ft_sh 290 = some (.inr (1, 140)) := by decide +kernel
theorem sh_291 : ft_sh 291 = some (.inr (0, 140)) := by decide +kernel
theorem sh_292 : ft_sh 292 = some (.inr (0, 140)) := by decide +kernel
theorem sh_293 : ft_sh 293 = some (.inr (0, 140)) := by decide +kernel
theorem sh_294 : ft_sh 294 = some (.inl 5) := by decide +kernel
theorem sh_295 : ft_sh 295 = some (.inr (2, 1760)) := by decide +kernel
theorem sh_296 : ft_sh 296 = some (.inl 4) := by decide +kernel
theorem sh_299 : ft_sh 299 = some (.inl 4) := by decide +kernel
theorem sh_302 : ft_sh 302 = some (.inl 2) := by decide +kernel
theorem sh_306 : ft_sh 306 = some (.inr (1, 80)) := by decide +kernel
theorem sh_309 : ft_sh 309 = some (.inl 11) := by decide +kernel
theorem sh_310 : ft_sh 310 = some (.inr (0, 520)) := by decide +kernel
theorem sh_311 : ft_sh 311 = some (.inr (0, 4160)) := by decide +kernel
theorem sh_312 : ft_sh 312 = some (.inr (0, 520)) := by decide +kernel
theorem sh_313 : ft_sh 313 = some (.inr (0, 3900)) := by decide +kernel
theorem sh_314 : ft_sh 314 = some (.inr (0, 3900)) := by decide +kernel
theorem sh_315 : ft_sh 315 = some (.inr (0, 3900)) := by decide +kernel
theorem sh_316 : ft_sh 316 = some (.inr (0, 3900)) := by decide +kernel
theorem sh_317 : ft_sh 317 = some (.inr (0, 3900)) := by decide +kernel
theorem sh_318 : ft_sh 318 = some (.inr (0, 64)) := by decide +kernel
theorem sh_319 : ft_sh 319 = some (.inr (0, 64)) := by decide +kernel
theorem sh_320 : ft_sh 320 = some (.inr (0, 64)) := by decide +kernel
theorem sh_321 : ft_sh 321 = some (.inr (0, 64)) := by decide +kernel
theorem sh_322 : ft_sh 322 = some (.inr (0, 64)) := by decide +kernel
theorem sh_323 : ft_sh 323 = some (.inr (0, 7930)) := by decide +kernel
theorem sh_324 : ft_sh 324 = some (.inr (0, 61)) := by decide +kernel
theorem sh_325 : ft_sh 325 = some (.inr (0, 64)) := by decide +kernel
theorem sh_326 : ft_sh 326 = some (.inr (0, 64)) := by decide +kernel
theorem sh_327 : ft_sh 327 = some (.inr (0, 64)) := by decide +kernel
theorem sh_328 : ft_sh 328 = some (.inr (0, 64)) := by decide +kernel
theorem sh_329 : ft_sh 329 = some (.inr (0, 2400)) := by decide +kernel
theorem sh_330 : ft_sh 330 = some (.inr (0, 2200)) := by decide +kernel
theorem sh_331 : ft_sh 331 = some (.inr (2, 30)) := by decide +kernel
theorem sh_332 : ft_sh 332 = some (.inr (0, 520)) := by decide +kernel
theorem ly_0_0 : ft_lay 0 0 = 1 := by decide +kernel
theorem ly_0_1 : ft_lay 0 1 = 12 := by decide +kernel
theorem ly_0_2 : ft_lay 0 2 = 23 := by decide +kernel
theorem ly_0_3 : ft_lay 0 3 = 113 := by decide +kernel
theorem ly_0_6 : ft_lay 0 6 = 115 := by decide +kernel
theorem ly_0_7 : ft_lay 0 7 = 122 := by decide +kernel
theorem ly_0_8 : ft_lay 0 8 = 133 := by decide +kernel
theorem ly_0_9 : ft_lay 0 9 = 136 := by decide +kernel
theorem ly_0_10 : ft_lay 0 10 = 143 := by decide +kernel
theorem ly_0_11 : ft_lay 0 11 = 289 := by decide +kernel
theorem ly_0_12 : ft_lay 0 12 = 294 := by decide +kernel
theorem ly_0_13 : ft_lay 0 13 = 296 := by decide +kernel
theorem ly_0_14 : ft_lay 0 14 = 299 := by decide +kernel
theorem ly_0_15 : ft_lay 0 15 = 302 := by decide +kernel
theorem ly_1_1 : ft_lay 1 1 = 2 := by decide +kernel
theorem ly_1_2 : ft_lay 1 2 = 5 := by decide +kernel
theorem ly_1_3 : ft_lay 1 3 = 8 := by decide +kernel
theorem ly_1_4 : ft_lay 1 4 = 11 := by decide +kernel
theorem ly_2_1 : ft_lay 2 1 = 4 := by decide +kernel
theorem ly_5_1 : ft_lay 5 1 = 7 := by decide +kernel
theorem ly_8_0 : ft_lay 8 0 = 9 := by decide +kernel
theorem ly_8_1 : ft_lay 8 1 = 10 := by decide +kernel
theorem ly_23_0 : ft_lay 23 0 = 24 := by decide +kernel
theorem ly_113_0 : ft_lay 113 0 = 114 := by decide +kernel
theorem ly_115_0 : ft_lay 115 0 = 117 := by decide +kernel
theorem ly_115_2 : ft_lay 115 2 = 119 := by decide +kernel
theorem ly_115_3 : ft_lay 115 3 = 120 := by decide +kernel
theorem ly_115_4 : ft_lay 115 4 = 121 := by decide +kernel
theorem ly_122_0 : ft_lay 122 0 = 123 := by decide +kernel
theorem ly_122_1 : ft_lay 122 1 = 124 := by decide +kernel
theorem ly_122_2 : ft_lay 122 2 = 125 := by decide +kernel
theorem ly_122_3 : ft_lay 122 3 = 126 := by decide +kernel
theorem ly_122_4 : ft_lay 122 4 = 127 := by decide +kernel
theorem ly_122_5 : ft_lay 122 5 = 128 := by decide +kernel
theorem ly_122_6 : ft_lay 122 6 = 129 := by decide +kernel
theorem ly_122_7 : ft_lay 122 7 = 130 := by decide +kernel
theorem ly_122_8 : ft_lay 122 8 = 131 := by decide +kernel
theorem ly_122_9 : ft_lay 122 9 = 132 := by decide +kernel
theorem ly_136_0 : ft_lay 136 0 = 138 := by decide +kernel
theorem ly_143_0 : ft_lay 143 0 = 144 := by decide +kernel
theorem ly_143_1 : ft_lay 143 1 = 145 := by decide +kernel
theorem ly_143_4 : ft_lay 143 4 = 148 := by decide +kernel
theorem ly_143_5 : ft_lay 143 5 = 217 := by decide +kernel
theorem ly_143_6 : ft_lay 143 6 = 286 := by decide +kernel
theorem ly_143_7 : ft_lay 143 7 = 287 := by decide +kernel
theorem ly_143_8 : ft_lay 143 8 = 288 := by decide +kernel
theorem ly_145_1 : ft_lay 145 1 = 147 := by decide +kernel
theorem ly_289_0 : ft_lay 289 0 = 290 := by decide +kernel
theorem ly_289_1 : ft_lay 289 1 = 291 := by decide +kernel
theorem ly_289_2 : ft_lay 289 2 = 292 := by decide +kernel
theorem ly_289_3 : ft_lay 289 3 = 293 := by decide +kernel
theorem ly_294_0 : ft_lay 294 0 = 295 := by decide +kernel
theorem ly_302_2 : ft_lay 302 2 = 306 := by decide +kernel
theorem ly_309_1 : ft_lay 309 1 = 310 := by decide +kernel
theorem ly_309_2 : ft_lay 309 2 = 311 := by decide +kernel
theorem ly_309_3 : ft_lay 309 3 = 312 := by decide +kernel
theorem ly_309_5 : ft_lay 309 5 = 313 := by decide +kernel
theorem ly_309_6 : ft_lay 309 6 = 314 := by decide +kernel
theorem ly_309_7 : ft_lay 309 7 = 315 := by decide +kernel
theorem ly_309_8 : ft_lay 309 8 = 316 := by decide +kernel
theorem ly_309_9 : ft_lay 309 9 = 317 := by decide +kernel
theorem ly_309_11 : ft_lay 309 11 = 318 := by decide +kernel
theorem ly_309_12 : ft_lay 309 12 = 319 := by decide +kernel
theorem ly_309_13 : ft_lay 309 13 = 320 := by decide +kernel
theorem ly_309_15 : ft_lay 309 15 = 321 := by decide +kernel
theorem ly_309_16 : ft_lay 309 16 = 322 := by decide +kernel
theorem ly_309_17 : ft_lay 309 17 = 323 := by decide +kernel
theorem ly_309_18 : ft_lay 309 18 = 324 := by decide +kernel
theorem ly_309_19 : ft_lay 309 19 = 325 := by decide +kernel
theorem ly_309_23 : ft_lay 309 23 = 326 := by decide +kernel
theorem ly_309_24 : ft_lay 309 24 = 327 := by decide +kernel
theorem ly_309_25 : ft_lay 309 25 = 328 := by decide +kernel
theorem ly_309_31 : ft_lay 309 31 = 329 := by decide +kernel
theorem ly_309_33 : ft_lay 309 33 = 330 := by decide +kernel
theorem ly_309_35 : ft_lay 309 35 = 331 := by decide +kernel
theorem ly_309_44 : ft_lay 309 44 = 332 := by decide +kernel
theorem lyc_4_0_all : ∀ k, k < 333 → ft_sh k = some (.inl 4) → ft_lay k 0 = k + 1 := by decide +kernel
theorem lyc_4_0 {k : Nat} (h : ft_sh k = some (.inl 4)) : ft_lay k 0 = k + 1 := lyc_4_0_all k (ft_sh_lt h) h
theorem shc_4_0_all : ∀ k, k < 333 → ft_sh k = some (.inl 4) → ft_sh (k + 1) = some (.inr (1, ft_ln (k + 1))) := by decide +kernel
theorem shc_4_0 {k : Nat} (h : ft_sh k = some (.inl 4)) : ft_sh (k + 1) = some (.inr (1, ft_ln (k + 1))) := shc_4_0_all k (ft_sh_lt h) h
theorem lyc_4_1_all : ∀ k, k < 333 → ft_sh k = some (.inl 4) → ft_lay k 1 = k + 2 := by decide +kernel
theorem lyc_4_1 {k : Nat} (h : ft_sh k = some (.inl 4)) : ft_lay k 1 = k + 2 := lyc_4_1_all k (ft_sh_lt h) h
theorem shc_4_1_all : ∀ k, k < 333 → ft_sh k = some (.inl 4) → ft_sh (k + 2) = some (.inr (0, ft_ln (k + 2))) := by decide +kernel
theorem shc_4_1 {k : Nat} (h : ft_sh k = some (.inl 4)) : ft_sh (k + 2) = some (.inr (0, ft_ln (k + 2))) := shc_4_1_all k (ft_sh_lt h) h
theorem lyc_9_0_all : ∀ k, k < 333 → ft_sh k = some (.inl 9) → ft_lay k 0 = k + 1 := by decide +kernel
theorem lyc_9_0 {k : Nat} (h : ft_sh k = some (.inl 9)) : ft_lay k 0 = k + 1 := lyc_9_0_all k (ft_sh_lt h) h
theorem shc_9_0_all : ∀ k, k < 333 → ft_sh k = some (.inl 9) → ft_sh (k + 1) = some (.inr (1, 40)) := by decide +kernel
theorem shc_9_0 {k : Nat} (h : ft_sh k = some (.inl 9)) : ft_sh (k + 1) = some (.inr (1, 40)) := shc_9_0_all k (ft_sh_lt h) h
theorem lyc_9_1_all : ∀ k, k < 333 → ft_sh k = some (.inl 9) → ft_lay k 1 = k + 2 := by decide +kernel
theorem lyc_9_1 {k : Nat} (h : ft_sh k = some (.inl 9)) : ft_lay k 1 = k + 2 := lyc_9_1_all k (ft_sh_lt h) h
theorem shc_9_1_all : ∀ k, k < 333 → ft_sh k = some (.inl 9) → ft_sh (k + 2) = some (.inr (0, 40)) := by decide +kernel
theorem shc_9_1 {k : Nat} (h : ft_sh k = some (.inl 9)) : ft_sh (k + 2) = some (.inr (0, 40)) := shc_9_1_all k (ft_sh_lt h) h
theorem lyc_6_1_all : ∀ k, k < 333 → ft_sh k = some (.inl 6) → ft_lay k 1 = k + 1 := by decide +kernel
theorem lyc_6_1 {k : Nat} (h : ft_sh k = some (.inl 6)) : ft_lay k 1 = k + 1 := lyc_6_1_all k (ft_sh_lt h) h
theorem shc_6_1_all : ∀ k, k < 333 → ft_sh k = some (.inl 6) → ft_sh (k + 1) = some (.inl 4) := by decide +kernel
theorem shc_6_1 {k : Nat} (h : ft_sh k = some (.inl 6)) : ft_sh (k + 1) = some (.inl 4) := shc_6_1_all k (ft_sh_lt h) h
theorem lyc_6_2_all : ∀ k, k < 333 → ft_sh k = some (.inl 6) → ft_lay k 2 = k + 4 := by decide +kernel
theorem lyc_6_2 {k : Nat} (h : ft_sh k = some (.inl 6)) : ft_lay k 2 = k + 4 := lyc_6_2_all k (ft_sh_lt h) h
theorem shc_6_2_all : ∀ k, k < 333 → ft_sh k = some (.inl 6) → ft_sh (k + 4) = some (.inl 4) := by decide +kernel
theorem shc_6_2 {k : Nat} (h : ft_sh k = some (.inl 6)) : ft_sh (k + 4) = some (.inl 4) := shc_6_2_all k (ft_sh_lt h) h
theorem lyc_6_3_all : ∀ k, k < 333 → ft_sh k = some (.inl 6) → ft_lay k 3 = k + 7 := by decide +kernel
theorem lyc_6_3 {k : Nat} (h : ft_sh k = some (.inl 6)) : ft_lay k 3 = k + 7 := lyc_6_3_all k (ft_sh_lt h) h
theorem shc_6_3_all : ∀ k, k < 333 → ft_sh k = some (.inl 6) → ft_sh (k + 7) = some (.inl 9) := by decide +kernel
theorem shc_6_3 {k : Nat} (h : ft_sh k = some (.inl 6)) : ft_sh (k + 7) = some (.inl 9) := shc_6_3_all k (ft_sh_lt h) h
theorem lyc_6_4_all : ∀ k, k < 333 → ft_sh k = some (.inl 6) → ft_lay k 4 = k + 10 := by decide +kernel
theorem lyc_6_4 {k : Nat} (h : ft_sh k = some (.inl 6)) : ft_lay k 4 = k + 10 := lyc_6_4_all k (ft_sh_lt h) h
theorem shc_6_4_all : ∀ k, k < 333 → ft_sh k = some (.inl 6) → ft_sh (k + 10) = some (.inr (1, 5)) := by decide +kernel
theorem shc_6_4 {k : Nat} (h : ft_sh k = some (.inl 6)) : ft_sh (k + 10) = some (.inr (1, 5)) := shc_6_4_all k (ft_sh_lt h) h
theorem lyc_2_0_all : ∀ k, k < 333 → ft_sh k = some (.inl 2) → ft_lay k 0 = k + 2 := by decide +kernel
theorem lyc_2_0 {k : Nat} (h : ft_sh k = some (.inl 2)) : ft_lay k 0 = k + 2 := lyc_2_0_all k (ft_sh_lt h) h
theorem shc_2_0_all : ∀ k, k < 333 → ft_sh k = some (.inl 2) → ft_sh (k + 2) = some (.inr (0, ft_ln (k + 2))) := by decide +kernel
theorem shc_2_0 {k : Nat} (h : ft_sh k = some (.inl 2)) : ft_sh (k + 2) = some (.inr (0, ft_ln (k + 2))) := shc_2_0_all k (ft_sh_lt h) h
theorem lyc_2_1_all : ∀ k, k < 333 → ft_sh k = some (.inl 2) → ft_lay k 1 = k + 3 := by decide +kernel
theorem lyc_2_1 {k : Nat} (h : ft_sh k = some (.inl 2)) : ft_lay k 1 = k + 3 := lyc_2_1_all k (ft_sh_lt h) h
theorem shc_2_1_all : ∀ k, k < 333 → ft_sh k = some (.inl 2) → ft_sh (k + 3) = some (.inr (0, ft_ln (k + 3))) := by decide +kernel
theorem shc_2_1 {k : Nat} (h : ft_sh k = some (.inl 2)) : ft_sh (k + 3) = some (.inr (0, ft_ln (k + 3))) := shc_2_1_all k (ft_sh_lt h) h
theorem lyc_2_2_all : ∀ k, k < 333 → ft_sh k = some (.inl 2) → ft_lay k 2 = k + 4 := by decide +kernel
theorem lyc_2_2 {k : Nat} (h : ft_sh k = some (.inl 2)) : ft_lay k 2 = k + 4 := lyc_2_2_all k (ft_sh_lt h) h
theorem shc_2_2_all : ∀ k, k < 333 → ft_sh k = some (.inl 2) → ft_sh (k + 4) = some (.inr (1, ft_ln (k + 4))) := by decide +kernel
theorem shc_2_2 {k : Nat} (h : ft_sh k = some (.inl 2)) : ft_sh (k + 4) = some (.inr (1, ft_ln (k + 4))) := shc_2_2_all k (ft_sh_lt h) h
theorem lyc_2_3_all : ∀ k, k < 333 → ft_sh k = some (.inl 2) → ft_lay k 3 = k + 5 := by decide +kernel
theorem lyc_2_3 {k : Nat} (h : ft_sh k = some (.inl 2)) : ft_lay k 3 = k + 5 := lyc_2_3_all k (ft_sh_lt h) h
theorem shc_2_3_all : ∀ k, k < 333 → ft_sh k = some (.inl 2) → ft_sh (k + 5) = some (.inr (1, ft_ln (k + 5))) := by decide +kernel
theorem shc_2_3 {k : Nat} (h : ft_sh k = some (.inl 2)) : ft_sh (k + 5) = some (.inr (1, ft_ln (k + 5))) := shc_2_3_all k (ft_sh_lt h) h
theorem lyc_2_4_all : ∀ k, k < 333 → ft_sh k = some (.inl 2) → ft_lay k 4 = k + 6 := by decide +kernel
theorem lyc_2_4 {k : Nat} (h : ft_sh k = some (.inl 2)) : ft_lay k 4 = k + 6 := lyc_2_4_all k (ft_sh_lt h) h
theorem shc_2_4_all : ∀ k, k < 333 → ft_sh k = some (.inl 2) → ft_sh (k + 6) = some (.inr (0, ft_ln (k + 6))) := by decide +kernel
theorem shc_2_4 {k : Nat} (h : ft_sh k = some (.inl 2)) : ft_sh (k + 6) = some (.inr (0, ft_ln (k + 6))) := shc_2_4_all k (ft_sh_lt h) h
theorem lyc_2_7_all : ∀ k, k < 333 → ft_sh k = some (.inl 2) → ft_lay k 7 = k + 1 := by decide +kernel
theorem lyc_2_7 {k : Nat} (h : ft_sh k = some (.inl 2)) : ft_lay k 7 = k + 1 := lyc_2_7_all k (ft_sh_lt h) h
theorem shc_2_7_all : ∀ k, k < 333 → ft_sh k = some (.inl 2) → ft_sh (k + 1) = some (.inr (0, 33)) := by decide +kernel
theorem shc_2_7 {k : Nat} (h : ft_sh k = some (.inl 2)) : ft_sh (k + 1) = some (.inr (0, 33)) := shc_2_7_all k (ft_sh_lt h) h
theorem lya_24_all : ∀ i, i < 8 → ft_lay 24 i = 25 + 11 * i := by decide +kernel
theorem sha_24_all : ∀ i, i < 8 → ft_sh (25 + 11 * i) = some (.inl 6) := by decide +kernel
theorem lya_24 {x : Int} (h : 0 ≤ x ∧ x < 8) : ft_lay 24 x.toNat = 25 + 11 * x.toNat := lya_24_all _ (by omega)
theorem sha_24 {x : Int} (h : 0 ≤ x ∧ x < 8) : ft_sh (25 + 11 * x.toNat) = some (.inl 6) := sha_24_all _ (by omega)
theorem lya_148_all : ∀ i, i < 68 → ft_lay 148 i = 149 + i := by decide +kernel
theorem sha_148_all : ∀ i, i < 68 → ft_sh (149 + i) = some (.inr (0, ft_ln (149 + i))) := by decide +kernel
theorem lya_148 {x : Int} (h : 0 ≤ x ∧ x < 68) : ft_lay 148 x.toNat = 149 + x.toNat := lya_148_all _ (by omega)
theorem sha_148 {x : Int} (h : 0 ≤ x ∧ x < 68) : ft_sh (149 + x.toNat) = some (.inr (0, ft_ln (149 + x.toNat))) := sha_148_all _ (by omega)
theorem lya_217_all : ∀ i, i < 68 → ft_lay 217 i = 218 + i := by decide +kernel
theorem sha_217_all : ∀ i, i < 68 → ft_sh (218 + i) = some (.inr (1, ft_ln (218 + i))) := by decide +kernel
theorem lya_217 {x : Int} (h : 0 ≤ x ∧ x < 68) : ft_lay 217 x.toNat = 218 + x.toNat := lya_217_all _ (by omega)
theorem sha_217 {x : Int} (h : 0 ≤ x ∧ x < 68) : ft_sh (218 + x.toNat) = some (.inr (1, ft_ln (218 + x.toNat))) := sha_217_all _ (by omega)
