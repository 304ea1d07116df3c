/-! the leaves' contracts -/
theorem fv_okl {K : ftM} {pc : Nat} {L : List (Option ftV)} {st : List ftV} {h : ftH} {R : Option ftV → ftH → Prop} {i : Nat} {v : ftV} (hi : L[i]? = some (some v)) (k : ft_ok v → ft_V K pc L st h R) : ft_V K pc L st h R := by
  intro p l e s m args below meth c D ad cA H locs ls hC hR hL hS hl
  exact k (hL v (List.mem_of_getElem? hi)) p l e s m args below meth c D ad cA H locs ls hC hR hL hS hl
theorem fv_wf {K : ftM} {pc : Nat} {L : List (Option ftV)} {st : List ftV} {h : ftH} {R : Option ftV → ftH → Prop} (k : ft_wf h → ft_V K pc L st h R) : ft_V K pc L st h R := by
  intro p l e s m args below meth c D ad cA H locs ls hC hR hL hS hl
  exact k hR.2.2.2 p l e s m args below meth c D ad cA H locs ls hC hR hL hS hl
section FVF
variable {K K' : ftM} {pc pc' : Nat} {L : List (Option ftV)} {st : List ftV} {h : ftH} {R : Option ftV → ftH → Prop}
theorem fv_callif {st0 av : List ftV} {z : Int} (hret : K'.2.2.2.1 = some .int ∨ K'.2.2.2.1 = some .boolean) (hp : pc + 3 = pc') (hst : ∀ v ∈ st, v ∈ st0) (run : ft_Rn K K' pc st0 st av h (fun r h' => r = some (.inl z) ∧ h' = h)) (k : ft_V K pc' L (.inl z :: st) h R) : ft_V K pc L st0 h R :=
  fv_calli hret hp hst run (fun z' h' _ hw => by
    obtain ⟨e1, rfl⟩ := hw
    cases e1
    exact k)
theorem fv_calllf {st0 av : List ftV} {z : Int} (hret : K'.2.2.2.1 = some .long) (hp : pc + 3 = pc') (hst : ∀ v ∈ st, v ∈ st0) (run : ft_Rn K K' pc st0 st av h (fun r h' => r = some (.inr (.inl z)) ∧ h' = h)) (k : ft_V K pc' L (.inr (.inl z) :: st) h R) : ft_V K pc L st0 h R :=
  fv_calll hret hp hst run (fun z' h' _ hw => by
    obtain ⟨e1, rfl⟩ := hw
    cases e1
    exact k)
end FVF
theorem ft_ln_open_all : ∀ k, k < 333 → ft_sh k = some (.inl 2) → ft_ln (k + 1) = 33 := by decide +kernel
theorem ft_ln_open {k : Nat} (h : ft_sh k = some (.inl 2)) : ft_ln (k + 1) = 33 := ft_ln_open_all k (ft_sh_lt h) h
theorem ft_ln_ps_all : ∀ k, k < 333 → ft_sh k = some (.inl 4) → ft_ln (k + 2) = ft_ln (k + 1) ∧ 60 ≤ ft_ln (k + 1) ∧ ft_ln (k + 1) ≤ 80 := by decide +kernel
theorem ft_ln_ps {k : Nat} (h : ft_sh k = some (.inl 4)) : ft_ln (k + 2) = ft_ln (k + 1) ∧ 60 ≤ ft_ln (k + 1) ∧ ft_ln (k + 1) ≤ 80 := ft_ln_ps_all k (ft_sh_lt h) h
theorem c_Mo_in {a : Int} {b : Int} {c : Int} {h : ftH} : ft_C k_Mo_in [.inr (.inl a), .inr (.inl b), .inr (.inl c)] h (fun r h' => r = some (.inl ((if b ≤ a ∧ a ≤ c then 1 else 0))) ∧ h' = h) := by
  refine ft_enter (n := 0) rfl (Nat.le_of_ble_eq_true rfl) rfl (b_Mo_in_0 ?_)
  repeat' (first | intro _ | apply And.intro)
  all_goals (first | rfl | omega | (refine congrArg some (congrArg Sum.inl ?_); split <;> omega))
theorem c_Mo_maskOf {a : Int} {h : ftH} : ft_C k_Mo_maskOf [.inl a] h (fun r h' => r = some (.inl (m_mask a)) ∧ h' = h) := by
  refine ft_enter (n := 0) rfl (Nat.le_of_ble_eq_true rfl) rfl (b_Mo_maskOf_0 ?_)
  exact ⟨fun c => ⟨by rw [m_mask, if_neg c], rfl⟩, fun c => ⟨by rw [m_mask, if_pos c], rfl⟩⟩
theorem c_Mo_unsigned {a : Int} {h : ftH} : ft_C k_Mo_unsigned [.inl a] h (fun r h' => r = some (.inr (.inl (pUn a))) ∧ h' = h) := by
  refine ft_enter (n := 0) rfl (Nat.le_of_ble_eq_true rfl) rfl (b_Mo_unsigned_0 ?_)
  exact ⟨rfl, rfl⟩
theorem c_Mo_sizeOf {a : Int} {h : ftH} (hp : (0 ≤ a ∧ a ≤ 32)) : ft_C k_Mo_sizeOf [.inl a] h (fun r h' => r = some (.inr (.inl (pSz a))) ∧ h' = h) := by
  refine ft_enter (n := 0) rfl (Nat.le_of_ble_eq_true rfl) rfl (b_Mo_sizeOf_0 ?_)
  exact ⟨by rw [ft_size2 hp.1 hp.2], rfl⟩
theorem c_Mo_at {a : Int} {b : Int} {c : Int} {h : ftH} (hp : ((0 ≤ a ∧ a ≤ 64) ∧ (0 ≤ b ∧ b ≤ 1) ∧ (0 ≤ c ∧ c ≤ 60))) : ft_C k_Mo_at [.inl a, .inl b, .inl c] h (fun r h' => r = some (.inl (61 * (2 * a + b) + c)) ∧ h' = h) := by
  refine ft_enter (n := 0) rfl (Nat.le_of_ble_eq_true rfl) rfl (b_Mo_at_0 ?_)
  exact ⟨by rw [ft_mul_eq (x := 2) ⟨by omega, by omega⟩, ft_add_eq (x := 2 * a) ⟨by omega, by omega⟩, ft_mul_eq ⟨by omega, by omega⟩, ft_add_eq ⟨by omega, by omega⟩], rfl⟩
theorem c_Mo_here  {h : ftH} (hp : (0 ≤ h 309 36 ∧ h 309 34 ≤ 2200)) : ft_C k_Mo_here [.inr (.inr 309)] h (fun r h' => r = some (.inl (m_here h)) ∧ h' = h) := by
  refine ft_enter (n := 0) rfl (Nat.le_of_ble_eq_true rfl) rfl (b_Mo_here_0 ?_)
  refine ⟨fun c => ⟨?_, rfl⟩, fun c => ⟨⟨hp.1, by omega⟩, ?_, rfl⟩⟩
  · rw [m_here, if_neg (by omega)]
  · rw [m_here, if_pos (by omega)]
theorem c_Mo_isWord {a : Int} {h : ftH} : ft_C k_Mo_isWord [.inr (.inr 309), .inl a] h (fun r h' => r = some (.inl ((if h 309 43 = 0 ∧ h 309 37 = 1 ∧ h 309 39 = a then 1 else 0))) ∧ h' = h) := by
  refine ft_enter (n := 0) rfl (Nat.le_of_ble_eq_true rfl) rfl (b_Mo_isWord_0 ?_)
  repeat' (first | intro _ | apply And.intro)
  all_goals (first | rfl | omega | (refine congrArg some (congrArg Sum.inl ?_); split <;> omega))
theorem c_FT_numberOrNotFound {a : Int} {h : ftH} : ft_C k_FT_numberOrNotFound [.inl a] h (fun r h' => r = some (.inl ((if a < 0 then (-2) else a))) ∧ h' = h) := by
  refine ft_enter (n := 0) rfl (Nat.le_of_ble_eq_true rfl) rfl (b_FT_numberOrNotFound_0 ?_)
  repeat' (first | intro _ | apply And.intro)
  all_goals (first | rfl | omega | (refine congrArg some (congrArg Sum.inl ?_); split <;> omega))
theorem c_FT_isAligned {a : Int} {b : Int} {h : ftH} (hp : ((0 ≤ a ∧ a < 4294967296) ∧ (0 ≤ b ∧ b ≤ 32))) : ft_C k_FT_isAligned [.inr (.inl a), .inl b] h (fun r h' => r = some (.inl ((if a % pSz b = 0 then 1 else 0))) ∧ h' = h) := by
  refine ft_enter (n := 0) rfl (Nat.le_of_ble_eq_true rfl) rfl (b_FT_isAligned_0 ?_)
  have e : ft_andL a (ft_subL (ft_ushrL 4294967296 b) 1) = a % pSz b := by
    have h1 := pSz_pos b
    have h2 := pSz_le b
    rw [ft_size hp.2.1 hp.2.2, ft_subL_eq ⟨by omega, by omega⟩]
    exact ft_andL_mask (32 - b.toNat) (by omega) hp.1.1 ⟨by omega, by omega⟩
  rw [e]
  exact ⟨fun c => ⟨by rw [if_neg c], rfl⟩, fun c => ⟨by rw [if_pos c], rfl⟩⟩
theorem c_FT_keyOf {a : Int} {b : Int} {h : ftH} (hp : ((0 ≤ a ∧ a < 4294967296) ∧ (0 ≤ b ∧ b ≤ 32))) : ft_C k_FT_keyOf [.inr (.inl a), .inl b] h (fun r h' => r = some (.inr (.inl (64 * a + b))) ∧ h' = h) := by
  refine ft_enter (n := 0) rfl (Nat.le_of_ble_eq_true rfl) rfl (b_FT_keyOf_0 ?_)
  exact ⟨by rw [ft_key hp.1.1 hp.1.2 hp.2.1 (by omega)], rfl⟩
theorem c_FT_startOf {a : Int} {h : ftH} (hp : (0 ≤ a)) : ft_C k_FT_startOf [.inr (.inl a)] h (fun r h' => r = some (.inr (.inl (a / 64))) ∧ h' = h) := by
  refine ft_enter (n := 0) rfl (Nat.le_of_ble_eq_true rfl) rfl ?_
  refine fv_okl (i := 0) rfl (fun hi => b_FT_startOf_0 ?_)
  exact ⟨by rw [ft_key_st hp hi], rfl⟩
theorem c_FT_lengthOf {a : Int} {h : ftH} (hp : (0 ≤ a)) : ft_C k_FT_lengthOf [.inr (.inl a)] h (fun r h' => r = some (.inl (a % 64)) ∧ h' = h) := by
  refine ft_enter (n := 0) rfl (Nat.le_of_ble_eq_true rfl) rfl ?_
  refine fv_okl (i := 0) rfl (fun hi => b_FT_lengthOf_0 ?_)
  exact ⟨by rw [ft_key_ln hp hi, ft_l2i_eq ⟨by omega, by omega⟩], rfl⟩
theorem c_FT_endOf {a : Int} {h : ftH} (hp : ((0 ≤ a ∧ a < 274877906944) ∧ a % 64 ≤ 32)) : ft_C k_FT_endOf [.inr (.inl a)] h (fun r h' => r = some (.inr (.inl (a / 64 + pSz (a % 64)))) ∧ h' = h) := by
  refine ft_enter (n := 0) rfl (Nat.le_of_ble_eq_true rfl) rfl (b_FT_endOf_0 ?_)
  have h1 := pSz_pos (a % 64)
  have h2 := pSz_le (a % 64)
  have hi : ft_inL a := ⟨by omega, by omega⟩
  exact ⟨by rw [ft_key_ln hp.1.1 hi, ft_key_st hp.1.1 hi, ft_l2i_eq ⟨by omega, by omega⟩, ft_size (by omega) hp.2, ft_addL_eq ⟨by omega, by omega⟩], rfl⟩
theorem c_St_room {t : Nat} {h : ftH} (ht : ft_sh t = some (.inl 6)) (hp : (0 ≤ h t 0 ∧ h t 0 ≤ 1000)) : ft_C k_St_room [.inr (.inr t)] h (fun r h' => r = some (.inl (2 * h t 0)) ∧ h' = h) := by
  refine ft_enter (n := 0) rfl (Nat.le_of_ble_eq_true rfl) rfl (b_St_room_0 ht ?_)
  exact ⟨by rw [ft_mul_eq ⟨by omega, by omega⟩], rfl⟩
theorem c_Cv_runEnd {t : Nat} {a : Int} {h : ftH} (ht : ft_sh t = some (.inl 2)) (hp : ((0 ≤ a ∧ a < 1000) ∧ h t 5 ≤ ft_ln (t + 5))) : ft_C k_Cv_runEnd [.inr (.inr t), .inl a] h (fun r h' => r = some (.inr (.inl ((if a + 1 < h t 5 then h (t + 5) (a + 1).toNat else 4294967296)))) ∧ h' = h) := by
  refine ft_enter (n := 0) rfl (Nat.le_of_ble_eq_true rfl) rfl (b_Cv_runEnd_0 ht ?_)
  rw [ft_add_eq ⟨by omega, by omega⟩]
  refine ⟨fun c => ⟨?_, rfl⟩, fun c => ⟨⟨by omega, by omega⟩, ?_, rfl⟩⟩
  · rw [if_neg (by omega)]
  · rw [if_pos (by omega)]
theorem c_Cv_innermost {t : Nat} {h : ftH} (ht : ft_sh t = some (.inl 2)) (hp : (h t 8 ≤ 33)) : ft_C k_Cv_innermost [.inr (.inr t)] h (fun r h' => r = some (.inl ((if 0 < h t 8 then h (t + 1) (h t 8 - 1).toNat else (-1)))) ∧ h' = h) := by
  refine ft_enter (n := 0) rfl (Nat.le_of_ble_eq_true rfl) rfl (b_Cv_innermost_0 ht ?_)
  refine ⟨fun c => ⟨?_, rfl⟩, fun c => ?_⟩
  · rw [if_neg (by omega)]
  · rw [ft_sub_eq ⟨by omega, by omega⟩]
    refine ⟨⟨by omega, by omega⟩, ?_, rfl⟩
    rw [if_pos (by omega)]
theorem c_Co_setOf {a : Int} {h : ftH} (hp : (0 ≤ a ∧ a < 360)) : ft_C k_Co_setOf [.inr (.inr 122), .inl a] h (fun r h' => r = some (.inl ((if h 128 a.toNat = 0 then ft_shl 1 (h 127 a.toNat) else if h 129 a.toNat = 0 then h 130 a.toNat else h 129 a.toNat))) ∧ h' = h) := by
  refine ft_enter (n := 0) rfl (Nat.le_of_ble_eq_true rfl) rfl (b_Co_setOf_0 ?_)
  refine ⟨hp, fun c => ⟨hp, fun d => ⟨hp, ?_, rfl⟩, fun d => ⟨hp, ?_, rfl⟩⟩, fun c => ⟨hp, ?_, rfl⟩⟩
  · rw [if_neg c, if_pos d]
  · rw [if_neg c, if_neg d]
  · rw [if_pos c]
theorem c_Ch_bitOf {a : Int} {h : ftH} (hp : (0 ≤ a ∧ a < 60)) : ft_C k_Ch_bitOf [.inl a] h (fun r h' => r = some (.inr (.inl (2 ^ (59 - a.toNat)))) ∧ h' = h) := by
  refine ft_enter (n := 0) rfl (Nat.le_of_ble_eq_true rfl) rfl (b_Ch_bitOf_0 ?_)
  refine ⟨?_, rfl⟩
  have hb : (2 : Int) ^ (59 - a.toNat) ≤ 2 ^ 59 := by
    have := Nat.pow_le_pow_right (n := 2) (by omega) (Nat.sub_le 59 a.toNat)
    have e : ((2 ^ (59 - a.toNat) : Nat) : Int) = (2 : Int) ^ (59 - a.toNat) := by push_cast; rfl
    rw [← e]
    exact Int.ofNat_le.mpr this
  rw [ft_sub_eq ⟨by omega, by omega⟩, ft_shlL_eq (by decide) (by omega) (by omega) (by rw [show (59 - a).toNat = 59 - a.toNat by omega]; omega), show (59 - a).toNat = 59 - a.toNat by omega, Int.one_mul]
theorem c_Ch_isBetter {a : Int} {b : Int} {c : Int} {d : Int} {h : ftH} : ft_C k_Ch_isBetter [.inl a, .inr (.inl b), .inl c, .inr (.inl d)] h (fun r h' => r = some (.inl ((if c < a ∨ a = c ∧ d < b then 1 else 0))) ∧ h' = h) := by
  refine ft_enter (n := 0) rfl (Nat.le_of_ble_eq_true rfl) rfl (b_Ch_isBetter_0 ?_)
  repeat' (first | intro _ | apply And.intro)
  all_goals (first | rfl | omega | (refine congrArg some (congrArg Sum.inl ?_); split <;> omega))
theorem c_Ta_isNumber {a : Int} {b : Int} {h : ftH} : ft_C k_Ta_isNumber [.inr (.inr 113), .inl a, .inl b] h (fun r h' => r = some (.inl ((if h 113 4 = 2 ∧ a ≤ h 113 5 ∧ h 113 5 ≤ b then 1 else 0))) ∧ h' = h) := by
  refine ft_enter (n := 0) rfl (Nat.le_of_ble_eq_true rfl) rfl (b_Ta_isNumber_0 ?_)
  repeat' (first | intro _ | apply And.intro)
  all_goals (first | rfl | omega | (refine congrArg some (congrArg Sum.inl ?_); split <;> omega))
theorem c_Ta_isLetter {a : Int} {h : ftH} : ft_C k_Ta_isLetter [.inl a] h (fun r h' => r = some (.inl ((if 97 ≤ a ∧ a ≤ 122 then 1 else 0))) ∧ h' = h) := by
  refine ft_enter (n := 0) rfl (Nat.le_of_ble_eq_true rfl) rfl (b_Ta_isLetter_0 ?_)
  repeat' (first | intro _ | apply And.intro)
  all_goals (first | rfl | omega | (refine congrArg some (congrArg Sum.inl ?_); split <;> omega))
theorem c_Ta_isDigit {a : Int} {h : ftH} : ft_C k_Ta_isDigit [.inl a] h (fun r h' => r = some (.inl ((if 48 ≤ a ∧ a ≤ 57 then 1 else 0))) ∧ h' = h) := by
  refine ft_enter (n := 0) rfl (Nat.le_of_ble_eq_true rfl) rfl (b_Ta_isDigit_0 ?_)
  repeat' (first | intro _ | apply And.intro)
  all_goals (first | rfl | omega | (refine congrArg some (congrArg Sum.inl ?_); split <;> omega))
theorem c_Mo_valueOf {a : Int} {h : ftH} (hp : (0 ≤ a ∧ a < 60)) : ft_C k_Mo_valueOf [.inr (.inr 309), .inl a] h (fun r h' => r = some (.inl (h 310 (10 + 3 * a.toNat))) ∧ h' = h) := by
  refine ft_enter (n := 0) rfl (Nat.le_of_ble_eq_true rfl) rfl (b_Mo_valueOf_0 ?_)
  have e : ft_add 10 (ft_mul 3 a) = 10 + 3 * a := by
    simp (disch := (unfold ft_in; omega)) only [ft_add_eq, ft_mul_eq]
  rw [e]
  exact ⟨⟨by omega, by omega⟩, by rw [show (10 + 3 * a).toNat = 10 + 3 * a.toNat by omega], rfl⟩
theorem c_Mo_lengthOf {a : Int} {h : ftH} (hp : (0 ≤ a ∧ a < 60)) : ft_C k_Mo_lengthOf [.inr (.inr 309), .inl a] h (fun r h' => r = some (.inl (h 310 (11 + 3 * a.toNat))) ∧ h' = h) := by
  refine ft_enter (n := 0) rfl (Nat.le_of_ble_eq_true rfl) rfl (b_Mo_lengthOf_0 ?_)
  have e : ft_add (ft_add 10 (ft_mul 3 a)) 1 = 10 + 3 * a + 1 := by
    simp (disch := (unfold ft_in; omega)) only [ft_add_eq, ft_mul_eq]
  rw [e]
  exact ⟨⟨by omega, by omega⟩, by rw [show (10 + 3 * a + 1).toNat = 11 + 3 * a.toNat by omega], rfl⟩
theorem c_Mo_hopOf {a : Int} {h : ftH} (hp : (0 ≤ a ∧ a < 60)) : ft_C k_Mo_hopOf [.inr (.inr 309), .inl a] h (fun r h' => r = some (.inl (h 310 (12 + 3 * a.toNat))) ∧ h' = h) := by
  refine ft_enter (n := 0) rfl (Nat.le_of_ble_eq_true rfl) rfl (b_Mo_hopOf_0 ?_)
  have e : ft_add (ft_add 10 (ft_mul 3 a)) 2 = 10 + 3 * a + 2 := by
    simp (disch := (unfold ft_in; omega)) only [ft_add_eq, ft_mul_eq]
  rw [e]
  exact ⟨⟨by omega, by omega⟩, by rw [show (10 + 3 * a + 2).toNat = 12 + 3 * a.toNat by omega], rfl⟩
theorem c_Mo_valueIn {a : Int} {h : ftH} (hp : (0 ≤ a ∧ a < 80)) : ft_C k_Mo_valueIn [.inr (.inr 309), .inl a] h (fun r h' => r = some (.inl (h 310 (270 + 3 * a.toNat))) ∧ h' = h) := by
  refine ft_enter (n := 0) rfl (Nat.le_of_ble_eq_true rfl) rfl (b_Mo_valueIn_0 ?_)
  have e : ft_add 270 (ft_mul 3 a) = 270 + 3 * a := by
    simp (disch := (unfold ft_in; omega)) only [ft_add_eq, ft_mul_eq]
  rw [e]
  exact ⟨⟨by omega, by omega⟩, by rw [show (270 + 3 * a).toNat = 270 + 3 * a.toNat by omega], rfl⟩
theorem c_Mo_lengthIn {a : Int} {h : ftH} (hp : (0 ≤ a ∧ a < 80)) : ft_C k_Mo_lengthIn [.inr (.inr 309), .inl a] h (fun r h' => r = some (.inl (h 310 (271 + 3 * a.toNat))) ∧ h' = h) := by
  refine ft_enter (n := 0) rfl (Nat.le_of_ble_eq_true rfl) rfl (b_Mo_lengthIn_0 ?_)
  have e : ft_add (ft_add 270 (ft_mul 3 a)) 1 = 270 + 3 * a + 1 := by
    simp (disch := (unfold ft_in; omega)) only [ft_add_eq, ft_mul_eq]
  rw [e]
  exact ⟨⟨by omega, by omega⟩, by rw [show (270 + 3 * a + 1).toNat = 271 + 3 * a.toNat by omega], rfl⟩
theorem c_Mo_actionIn {a : Int} {h : ftH} (hp : (0 ≤ a ∧ a < 80)) : ft_C k_Mo_actionIn [.inr (.inr 309), .inl a] h (fun r h' => r = some (.inl (h 310 (272 + 3 * a.toNat))) ∧ h' = h) := by
  refine ft_enter (n := 0) rfl (Nat.le_of_ble_eq_true rfl) rfl (b_Mo_actionIn_0 ?_)
  have e : ft_add (ft_add 270 (ft_mul 3 a)) 2 = 270 + 3 * a + 2 := by
    simp (disch := (unfold ft_in; omega)) only [ft_add_eq, ft_mul_eq]
  rw [e]
  exact ⟨⟨by omega, by omega⟩, by rw [show (270 + 3 * a + 2).toNat = 272 + 3 * a.toNat by omega], rfl⟩
theorem c_Mo_seenAt {a : Int} {h : ftH} (hp : (0 ≤ a ∧ a < 40)) : ft_C k_Mo_seenAt [.inr (.inr 309), .inl a] h (fun r h' => r = some (.inl (h 310 (190 + 2 * a.toNat))) ∧ h' = h) := by
  refine ft_enter (n := 0) rfl (Nat.le_of_ble_eq_true rfl) rfl (b_Mo_seenAt_0 ?_)
  have e : ft_add 190 (ft_mul 2 a) = 190 + 2 * a := by
    simp (disch := (unfold ft_in; omega)) only [ft_add_eq, ft_mul_eq]
  rw [e]
  exact ⟨⟨by omega, by omega⟩, by rw [show (190 + 2 * a).toNat = 190 + 2 * a.toNat by omega], rfl⟩
theorem c_Mo_timesAt {a : Int} {h : ftH} (hp : (0 ≤ a ∧ a < 40)) : ft_C k_Mo_timesAt [.inr (.inr 309), .inl a] h (fun r h' => r = some (.inl (h 310 (191 + 2 * a.toNat))) ∧ h' = h) := by
  refine ft_enter (n := 0) rfl (Nat.le_of_ble_eq_true rfl) rfl (b_Mo_timesAt_0 ?_)
  have e : ft_add (ft_add 190 (ft_mul 2 a)) 1 = 190 + 2 * a + 1 := by
    simp (disch := (unfold ft_in; omega)) only [ft_add_eq, ft_mul_eq]
  rw [e]
  exact ⟨⟨by omega, by omega⟩, by rw [show (190 + 2 * a + 1).toNat = 191 + 2 * a.toNat by omega], rfl⟩
