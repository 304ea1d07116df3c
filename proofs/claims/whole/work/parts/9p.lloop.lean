/-! printed by wip/whole/gen/gen9p.py: the law's loop -/
def l_tg : List Nat := [248, 311, 334, 347, 360, 373, 396, 409, 443, 486, 519, 542, 565, 598, 611, 624, 658, 671, 705, 728, 741, 754, 767, 780, 814, 827, 850, 863, 876, 910, 933, 946, 980, 993, 1016, 1039, 1052, 1076, 1090, 1114, 1127, 1150, 1163, 1176, 1199, 1212, 1236, 1249, 1272, 1305]
def l_tgt (v : Nat) : Nat := l_tg.getD v 1318
def l_offs : Array Int := #[215, 278, 301, 314, 327, 340, 363, 376, 410, 453, 486, 509, 532, 565, 578, 591, 625, 638, 672, 695, 708, 721, 734, 747, 781, 794, 817, 830, 843, 877, 900, 913, 947, 960, 983, 1006, 1019, 1043, 1057, 1081, 1094, 1117, 1130, 1143, 1166, 1179, 1203, 1216, 1239, 1272]
theorem l_off_ok : ∀ v, v < 50 → l_offs[v]? = some ((l_tgt v : Int) - 33) := by decide +kernel
theorem l_tgt_out : ∀ v, v < 64 → 50 ≤ v → l_tgt v = 1318 := by decide +kernel
theorem l_d33 : decode code 33 = .ok (.tableswitch 1285 0 49 l_offs, 215) := ft_d o_La_head 21 rfl
theorem l_end {L : Nat} {xs : Nat → Int32} {i : Nat} {h : ftH} : lV L xs 1324 i [] h := by
  intro p l e s m below meth c b D ad cA H locs ls C0 hE hR hS hl
  refine lv_iconst (v := 1) C0.1 C0.2.1 (ft_d o_La_tail 2 rfl) (by decide) ?_
  refine va_forget (fun q hq => hE.2.2 _ (hR.2.2.1.2.2 q hq)) ?_
  refine W.widen (k := 600000) (n := 7302250) (Nat.le_of_ble_eq_true rfl) (Nat.le_of_ble_eq_true rfl) ?_
  exact lw_ret C0.1 C0.2.1 C0.2.2.1 C0.2.2.2.2.2.2.2.2.1 (ft_d o_La_tail 3 rfl)
theorem l_head {L : Nat} {xs : Nat → Int32} {i : Nat} {h : ftH} (hL : L ≤ 3072) (hi0 : i ≤ 4000) (kk : i + 6 ≤ L → ∀ v : Nat, v < 64 → lV L xs (l_tgt v) i [] h) : lV L xs 18 i [] h := by
  intro p l e s m below meth c b D ad cA H locs ls C0 hE hR hS hl
  refine lv_iload_n C0.1 C0.2.1 (ft_d o_La_head 10 rfl) rfl (lv_at hl 3 rfl) ?_
  refine lv_aload_n C0.1 C0.2.1 (ft_d o_La_head 11 rfl) rfl (lv_at hl 0 rfl) ?_
  refine va_slen C0.1 C0.2.1 C0.2.2.2.2.2.2.1 C0.2.2.2.2.2.2.2.1 (l_bA C0 hE) hR.2.2.1 (ft_d o_La_head 12 rfl) ?_
  refine lv_bipush C0.1 C0.2.1 (ft_d o_La_head 13 rfl) (ft_bip (n := 6) (by decide) (by decide)) ?_
  refine lv_isub C0.1 C0.2.1 (ft_d o_La_head 14 rfl) ?_
  have hinL : ft_in ((L : Int) - 6) := ⟨by omega, by omega⟩
  have hini : ft_in (i : Int) := ⟨by omega, by omega⟩
  have e1 : Int32.ofNat L - Int32.ofInt 6 = Int32.ofInt ((L : Int) - 6) := by
    have := ft_sub_eq hinL
    unfold ft_sub at this
    rw [← this, ft_bk]
    rfl
  refine lv_icmp_gt (tgt := 1324) C0.1 C0.2.1 (ft_d o_La_head 15 rfl) rfl (fun q => l_end p l e s m below meth c b D ad cA H locs ls C0 hE hR hS hl) (fun q => ?_)
  rw [e1, ft_ltI hinL hini] at q
  have hi : i + 6 ≤ L := by omega
  refine lv_aload_n C0.1 C0.2.1 (ft_d o_La_head 16 rfl) rfl (lv_at hl 0 rfl) ?_
  refine lv_iload_n C0.1 C0.2.1 (ft_d o_La_head 17 rfl) rfl (lv_at hl 3 rfl) ?_
  refine va_sld C0.1 C0.2.1 C0.2.2.2.2.2.2.1 C0.2.2.2.2.2.2.2.1 (l_bA C0 hE) hR.2.2.1 (ft_vpin hini (by omega) (by omega)) (ft_d o_La_head 18 rfl) ?_
  refine lv_bipush C0.1 C0.2.1 (ft_d o_La_head 19 rfl) (ft_bip (n := 63) (by decide) (by decide)) ?_
  refine lv_iand C0.1 C0.2.1 (ft_d o_La_head 20 rfl) ?_
  rw [ft_cl hini, Int.toNat_natCast]
  have e2 : (xs i &&& Int32.ofInt 63).toInt = (xs i).toInt % 64 := by
    have := ft_and_mask 6 (by decide) (xs i).toInt
    unfold ft_and at this
    rw [ft_bk] at this
    exact this
  have hv : ∃ v : Nat, v < 64 ∧ (xs i &&& Int32.ofInt 63).toInt = (v : Int) := ⟨((xs i).toInt % 64).toNat, by omega, by rw [e2]; omega⟩
  obtain ⟨v, hv1, hv2⟩ := hv
  have t := kk hi v hv1 p l e s m below meth c b D ad cA H locs ls C0 hE hR hS hl
  by_cases c5 : v < 50
  · exact lv_tableIn (off := (l_tgt v : Int) - 33) (tgt := l_tgt v) C0.1 C0.2.1 l_d33 (by rw [hv2]; omega) (by rw [hv2]; omega) (by rw [hv2, Int.sub_zero, Int.toNat_natCast]; exact l_off_ok v c5) (by show (33 : Int) + _ = _; omega) t
  · rw [l_tgt_out v hv1 (by omega)] at t
    exact lv_tableOut (tgt := 1318) C0.1 C0.2.1 l_d33 (Or.inr (by rw [hv2]; omega)) rfl t
theorem la_all {L : Nat} {xs : Nat → Int32} {i : Nat} {B : Int} (hL : L ≤ 3072) (hi : i + 6 ≤ L) (hB0 : 0 ≤ B) (hB : B ≤ 900000000) (k : lK L xs 1318 i (B + 20000)) : ∀ v : Nat, v < 64 → lK L xs (l_tgt v) i B := by
  intro v hv
  by_cases c5 : 50 ≤ v
  · rw [l_tgt_out v hv c5]
    exact fun h G hb => k h G (gB_mono (by omega) hb)
  · match v, c5 with
    | 0, _ => exact la_0 hL hi hB0 hB k
    | 1, _ => exact la_1 hL hi hB0 hB k
    | 2, _ => exact la_2 hL hi hB0 hB k
    | 3, _ => exact la_3 hL hi hB0 hB k
    | 4, _ => exact la_4 hL hi hB0 hB k
    | 5, _ => exact la_5 hL hi hB0 hB k
    | 6, _ => exact la_6 hL hi hB0 hB k
    | 7, _ => exact la_7 hL hi hB0 hB k
    | 8, _ => exact la_8 hL hi hB0 hB k
    | 9, _ => exact la_9 hL hi hB0 hB k
    | 10, _ => exact la_10 hL hi hB0 hB k
    | 11, _ => exact la_11 hL hi hB0 hB k
    | 12, _ => exact la_12 hL hi hB0 hB k
    | 13, _ => exact la_13 hL hi hB0 hB k
    | 14, _ => exact la_14 hL hi hB0 hB k
    | 15, _ => exact la_15 hL hi hB0 hB k
    | 16, _ => exact la_16 hL hi hB0 hB k
    | 17, _ => exact la_17 hL hi hB0 hB k
    | 18, _ => exact la_18 hL hi hB0 hB k
    | 19, _ => exact la_19 hL hi hB0 hB k
    | 20, _ => exact la_20 hL hi hB0 hB k
    | 21, _ => exact la_21 hL hi hB0 hB k
    | 22, _ => exact la_22 hL hi hB0 hB k
    | 23, _ => exact la_23 hL hi hB0 hB k
    | 24, _ => exact la_24 hL hi hB0 hB k
    | 25, _ => exact la_25 hL hi hB0 hB k
    | 26, _ => exact la_26 hL hi hB0 hB k
    | 27, _ => exact la_27 hL hi hB0 hB k
    | 28, _ => exact la_28 hL hi hB0 hB k
    | 29, _ => exact la_29 hL hi hB0 hB k
    | 30, _ => exact la_30 hL hi hB0 hB k
    | 31, _ => exact la_31 hL hi hB0 hB k
    | 32, _ => exact la_32 hL hi hB0 hB k
    | 33, _ => exact la_33 hL hi hB0 hB k
    | 34, _ => exact la_34 hL hi hB0 hB k
    | 35, _ => exact la_35 hL hi hB0 hB k
    | 36, _ => exact la_36 hL hi hB0 hB k
    | 37, _ => exact la_37 hL hi hB0 hB k
    | 38, _ => exact la_38 hL hi hB0 hB k
    | 39, _ => exact la_39 hL hi hB0 hB k
    | 40, _ => exact la_40 hL hi hB0 hB k
    | 41, _ => exact la_41 hL hi hB0 hB k
    | 42, _ => exact la_42 hL hi hB0 hB k
    | 43, _ => exact la_43 hL hi hB0 hB k
    | 44, _ => exact la_44 hL hi hB0 hB k
    | 45, _ => exact la_45 hL hi hB0 hB k
    | 46, _ => exact la_46 hL hi hB0 hB k
    | 47, _ => exact la_47 hL hi hB0 hB k
    | 48, _ => exact la_48 hL hi hB0 hB k
    | 49, _ => exact la_49 hL hi hB0 hB k
    | v + 50, c5 => exact absurd (Nat.le_add_left 50 v) c5
theorem l_loop {L : Nat} {xs : Nat → Int32} (hL : L ≤ 3072) : ∀ (n t : Nat), L < 6 * t + 6 * n + 6 → 6 * t ≤ L + 6 → lK L xs 18 (6 * t) ((20000 * t : Nat) : Int)
  | 0, t, h1, h2 => fun h G hb hG hM => l_head hL (by omega) (fun hi => absurd hi (by omega))
  | n + 1, t, h1, h2 => fun h G hb hG hM => l_head hL (by omega) (fun hi v hv => la_all hL hi (by omega) (by omega) (fun h' G' hb' hG' hM' => l_next (ft_d o_La_tail 0 rfl) (ft_d o_La_tail 1 rfl) rfl (l_loop hL n (t + 1) (by omega) (by omega) h' G' (gB_mono (by omega) hb') hG' hM')) v hv h G hb hG hM)
